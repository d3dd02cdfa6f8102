/-! PURE: the reference's arithmetic on a state is s_arith. -/
def rho (i : Nat) : Nat := if i < 11 then i else 85 - i
/-- row r of the reference, as a state -/
def rv (M : me_M) (r i : Nat) : sC := it M (if i < 11 then 0 else mI M 13 10 (64 * r + (74 - i))) (75 * r + rho i)
def kv (M : me_M) : Prop := ∀ x, ∃ n, n < 9 ∧ mI M 14 8 x = nI n
theorem kv_b {M : me_M} (h : kv M) : bI M := by
  intro x
  obtain ⟨n, hn, e⟩ := h x
  rw [e]
  exact nar_k n hn
/-- places that a step may change -/
def rX (f : Nat) : Prop := f < 75 ∨ 30075 ≤ f
/-- only items at places of S, what is written of slots of T, and the identities are changed -/
def rG (S T : Nat → Prop) (M M1 : me_M) : Prop := mR M1 = mR M ∧ mN M1 = mN M ∧ mZ M1 = mZ M ∧ (∀ k j f, ¬ (iA k j ∧ S f) → ¬ (k = 13 ∧ j = 10 ∧ T f) → ¬ (k = 1 ∧ j = 0 ∧ f = 59) → mI M1 k j f = mI M k j f) ∧ ∀ k j f, ¬ (k = 16 ∧ (6 ≤ j ∧ j ≤ 11) ∧ S f) → mL M1 k j f = mL M k j f
section RG
variable {M M1 M2 : me_M} {S T S2 T2 : Nat → Prop} {i : Nat} {w : Int32}
theorem rG_refl : rG S T M M := ⟨rfl, rfl, rfl, fun _ _ _ _ _ _ => rfl, fun _ _ _ _ => rfl⟩
theorem rG_trans (h : rG S T M M1) (g : rG S T M1 M2) : rG S T M M2 := ⟨g.1.trans h.1, g.2.1.trans h.2.1, g.2.2.1.trans h.2.2.1, fun k j f a b c => (g.2.2.2.1 k j f a b c).trans (h.2.2.2.1 k j f a b c), fun k j f a => (g.2.2.2.2 k j f a).trans (h.2.2.2.2 k j f a)⟩
theorem rG_f (h : rf S T M M1) : rG S T M M1 := ⟨h.1, h.2.1, h.2.2.1, fun k j f a b _ => h.2.2.2.1 k j f a b, h.2.2.2.2⟩
theorem rG_mono (h : rG S T M M1) (g : ∀ i, S i → S2 i) (g2 : ∀ i, T i → T2 i) : rG S2 T2 M M1 := ⟨h.1, h.2.1, h.2.2.1, fun k j f a b c => h.2.2.2.1 k j f (fun z => a ⟨z.1, g f z.2⟩) (fun z => b ⟨z.1, z.2.1, g2 f z.2.2⟩) c, fun k j f a => h.2.2.2.2 k j f (fun z => a ⟨z.1, z.2.1, g f z.2.2⟩)⟩
theorem rG_59 {v : Int32} : rG S T M (wI M 1 0 59 v) := ⟨rfl, rfl, rfl, fun k j f _ _ c => if_neg c, fun _ _ _ _ => rfl⟩
theorem rG_ps (h : rG S T M M1) (g : ps_M M) : ps_M M1 := ps_M_of h.1 h.2.2.1 g
theorem rG_rg (h : rG S T M M1) (g : ¬ S i) : rg M1 i = rg M i := by
  unfold rg
  rw [h.2.2.2.2 16 6 i (fun z => g z.2.2), h.2.2.2.2 16 7 i (fun z => g z.2.2), h.2.2.2.2 16 8 i (fun z => g z.2.2), h.2.2.2.2 16 9 i (fun z => g z.2.2), h.2.2.2.2 16 10 i (fun z => g z.2.2), h.2.2.2.2 16 11 i (fun z => g z.2.2)]
theorem rG_it (h : rG S T M M1) (g : ¬ S i) : it M1 w i = it M w i := by
  unfold it
  rw [rG_rg h g, h.2.2.2.1 14 8 i (fun z => g z.2) (fun z => absurd z.1 (by decide)) (fun z => absurd z.1 (by decide)), h.2.2.2.1 13 6 i (fun z => g z.2) (fun z => absurd z.2.1 (by decide)) (fun z => absurd z.1 (by decide)), h.2.2.2.1 13 7 i (fun z => g z.2) (fun z => absurd z.2.1 (by decide)) (fun z => absurd z.1 (by decide)), h.2.2.2.1 13 8 i (fun z => g z.2) (fun z => absurd z.2.1 (by decide)) (fun z => absurd z.1 (by decide)), h.2.2.2.1 13 9 i (fun z => g z.2) (fun z => absurd z.2.1 (by decide)) (fun z => absurd z.1 (by decide))]
end RG
theorem in_t {v a b : Int64} (h1 : a ≤ v) (h2 : v ≤ b) : f_M_in v a b = some 1 := by
  unfold f_M_in
  rw [if_neg (Int64.not_lt.mpr h1), if_neg (Int64.not_lt.mpr h2)]
theorem in_f {v a b : Int64} (h : v < a ∨ b < v) : f_M_in v a b = some 0 := by
  unfold f_M_in
  rcases h with z | z
  · rw [if_pos z]
  · by_cases g : v < a
    · rw [if_pos g]
    · rw [if_neg g, if_pos z]
theorem add_l {a : Int32} {v : Int64} (h1 : -65535 ≤ a.toInt) (h2 : a.toInt ≤ 65535) (h3 : -65535 ≤ v.toInt) (h4 : v.toInt ≤ 65535) : (a.toInt64 + v).toInt = a.toInt + v.toInt ∧ (a + v.toInt32).toInt = a.toInt + v.toInt ∧ (a.toInt64 + v).toInt32 = a + v.toInt32 := by
  have e1 : a.toInt64.toInt = a.toInt := Int32.toInt_toInt64 a
  have e2 : (a.toInt64 + v).toInt = a.toInt + v.toInt := by
    rw [Int64.toInt_add, e1, Int.bmod_def]
    show (if (a.toInt + v.toInt) % 18446744073709551616 < (18446744073709551616 + 1) / 2 then _ else _) = _
    omega
  have e3 : v.toInt32.toInt = v.toInt := by
    rw [Int64.toInt_toInt32, Int.bmod_def]
    show (if v.toInt % 4294967296 < (4294967296 + 1) / 2 then _ else _) = _
    omega
  have e4 : (a + v.toInt32).toInt = a.toInt + v.toInt := by
    rw [Int32.toInt_add, e3, Int.bmod_def]
    show (if (a.toInt + v.toInt) % 4294967296 < (4294967296 + 1) / 2 then _ else _) = _
    omega
  refine ⟨e2, e4, ?_⟩
  apply Int32.toInt_inj.mp
  rw [e4, Int64.toInt_toInt32, e2, Int.bmod_def]
  show (if (a.toInt + v.toInt) % 4294967296 < (4294967296 + 1) / 2 then _ else _) = _
  omega
section RA
variable {M M1 M2 : me_M}
/-- what a moved pointer may change -/
abbrev mS (p : Nat) : Nat → Prop := fun i => i = p ∨ rq_D i ∨ i = 30080
abbrev mT : Nat → Prop := fun _ => False
theorem rg_I {k j f q : Nat} {v : Int32} : rg (wI M k j f v) q = rg M q := rfl
theorem cn4 {p m i r w : Int32} {x : fn_N} : cn 4 p m i r w x = (4, p, 0, i, r, 0, x) := by
  unfold cn
  rw [if_pos (Or.inr (Or.inr (Or.inl rfl))), if_neg (by decide), if_pos (Or.inl rfl), if_pos rfl, if_neg (by decide), if_pos (Or.inr (Or.inl rfl))]
theorem cn7 {p m i r w : Int32} {x : fn_N} : cn 7 p m i r w x = (7, p, m, 0, 0, 0, x) := by
  unfold cn
  rw [if_pos (Or.inr (Or.inr (Or.inr rfl))), if_pos (Or.inr (Or.inl rfl)), if_neg (by decide), if_neg (by decide), if_neg (by decide), if_pos (Or.inr (Or.inr rfl))]
theorem pm_moves (h : ps_M M) {xp xx : Int32} {p x : Nat} (hp : ok xp p) (hx : ok xx x) (hx5 : ¬ x = 30075) (hpd : ¬ rq_D p ∧ ¬ p = 30080) {sub : Int32} {w : Int32} (hk : c_ptr (it M w p)) (hb1 : -65535 ≤ (cPl (it M w p)).toInt) (hb2 : (cPl (it M w p)).toInt ≤ 65535) : ∃ M1 r, f_M_moves M 0 xp xx sub = some (M1, r) ∧ rG (mS p) mT M M1 ∧ (∀ q, mI M1 14 8 q = mI M 14 8 q) ∧ match s_sh sub (it M w p) (rg M x) (mI M 1 0 59) with
    | none => r = 11
    | some q => r = 0 ∧ it M1 w p = q.1 ∧ mI M1 1 0 59 = q.2 := by
  have ek : mI M 14 8 p = cK (it M w p) := rfl
  have h2 : mI M 14 8 p = 2 ∨ mI M 14 8 p = 3 ∨ mI M 14 8 p = 4 ∨ mI M 14 8 p = 7 := hk
  have epl : mI M 13 6 p = cPl (it M w p) := by
    unfold it cn
    exact (if_pos h2).symm
  have same : ∃ M1 r2, (some (M, (11 : Int32)) : Option (me_M × Int32)) = some (M1, r2) ∧ rG (mS p) mT M M1 ∧ (∀ q, mI M1 14 8 q = mI M 14 8 q) ∧ match (none : Option (sC × Int32)) with
      | none => r2 = 11
      | some q => r2 = 0 ∧ it M1 w p = q.1 ∧ mI M1 1 0 59 = q.2 := ⟨M, 11, rfl, rG_refl, fun _ => rfl, rfl⟩
  have b35 : ∀ v c : Int64, (v = c ∨ v = -c) → ∃ M1 r2, f_M_moves_b35 0 xp M c v (mI M 13 6 p).toInt64 = some (M1, r2) ∧ rG (mS p) mT M M1 ∧ (∀ q, mI M1 14 8 q = mI M 14 8 q) ∧ match (if c < -65535 then none else if 65535 < c then none else if cPl (it M w p) + v.toInt32 < -65535 then none else if cPl (it M w p) + v.toInt32 ≤ 65535 then some ((cK (it M w p), cPl (it M w p) + v.toInt32, cM (it M w p), cI (it M w p), cR (it M w p), cW (it M w p), cX (it M w p)), mI M 1 0 59) else none : Option (sC × Int32)) with
      | none => r2 = 11
      | some q => r2 = 0 ∧ it M1 w p = q.1 ∧ mI M1 1 0 59 = q.2 := by
    intro v c hvc
    have e5 : (-65535 : Int32).toInt = -65535 := rfl
    have e6 : (-65535 : Int64).toInt = -65535 := rfl
    have e7 : (65535 : Int32).toInt = 65535 := rfl
    have e8 : (65535 : Int64).toInt = 65535 := rfl
    unfold f_M_moves_b35
    rw [st_eq, epl]
    by_cases g1 : c < -65535
    · rw [in_f (Or.inl g1), bd_some, if_pos rfl, if_pos g1]
      exact same
    rw [if_neg g1]
    by_cases g2 : 65535 < c
    · rw [in_f (Or.inr g2), bd_some, if_pos rfl, if_pos g2]
      exact same
    rw [if_neg g2, in_t (Int64.not_lt.mp g1) (Int64.not_lt.mp g2), bd_some, if_neg (by decide)]
    rw [Int64.lt_iff_toInt_lt] at g1 g2
    have vb2 : -65535 ≤ v.toInt ∧ v.toInt ≤ 65535 := by
      rcases hvc with z | z
      · rw [z]; omega
      · have : v.toInt = -c.toInt := by
          rw [z, Int64.toInt_neg, Int.bmod_def]
          show (if (-c.toInt) % 18446744073709551616 < (18446744073709551616 + 1) / 2 then _ else _) = _
          omega
        omega
    obtain ⟨q1, q2, q3⟩ := add_l hb1 hb2 vb2.1 vb2.2
    by_cases g3 : cPl (it M w p) + v.toInt32 < -65535
    · rw [if_pos g3, in_f (Or.inl (by
        rw [Int32.lt_iff_toInt_lt, q2] at g3
        rw [Int64.lt_iff_toInt_lt, q1]
        omega)), bd_some, if_pos rfl]
      exact same
    rw [if_neg g3]
    by_cases g4 : cPl (it M w p) + v.toInt32 ≤ 65535
    · rw [if_pos g4, in_t (by
        rw [Int32.lt_iff_toInt_lt, q2] at g3
        rw [Int64.le_iff_toInt_le, q1]
        omega) (by
        rw [Int32.le_iff_toInt_le, q2] at g4
        rw [Int64.le_iff_toInt_le, q1]
        omega), bd_some, if_neg (by decide), rs_48 h, bd_some, rz_13_6 h, hp.2.1]
      simp only [gd, ok_g hp, if_true, st_eq]
      rw [q3]
      refine ⟨_, 0, rfl, rG_f (rf_I iA6 (Or.inl rfl)), fun _ => rfl, rfl, ?_, rfl⟩
      generalize cPl (it M w p) + v.toInt32 = nv
      unfold it cn
      have e0 : mI (wI M 13 6 p nv) 14 8 p = mI M 14 8 p := rfl
      have e1 : mI (wI M 13 6 p nv) 13 6 p = nv := pI_same
      have e2 : mI (wI M 13 6 p nv) 13 7 p = mI M 13 7 p := kB (by decide)
      have e3 : mI (wI M 13 6 p nv) 13 8 p = mI M 13 8 p := kB (by decide)
      have e4 : mI (wI M 13 6 p nv) 13 9 p = mI M 13 9 p := kB (by decide)
      rw [e0, e1, e2, e3, e4, if_pos h2]
      rfl
    · rw [if_neg g4, in_f (Or.inr (by
        rw [Int32.le_iff_toInt_le, q2] at g4
        rw [Int64.lt_iff_toInt_lt, q1]
        omega)), bd_some, if_pos rfl]
      exact same
  have hop := pm_op h (op := 0) (nar := 0) hp hx ok_U hx5 (Or.inl rfl)
  have hcp : ∀ N : me_M, ps_M N → f_M_copyNumber N 0 30080 xp = some (rt N p (rg N 30080)) := fun N hN => pm_copy hN ok_U hp
  unfold f_M_moves s_sh
  rw [pm_isExact h hx, b2_some]
  generalize f_M_operate = OP at hop ⊢
  generalize f_M_copyNumber = CP at hcp ⊢
  generalize f_M_moves_b35 = B35 at b35 ⊢
  have ex0 : (rg M x).1 = mL M 16 6 x := rfl
  by_cases g : (rg M x).2.1 = 0
  · rw [if_pos g, if_neg (by decide), if_pos g]
    simp only [rs_52 h, rs_48 h, bd_some, rz_16_6 h, rz_13_6 h, hx.2.1, hp.2.1, gd, ok_g hx, ok_g hp, if_true, st_eq]
    rw [← ex0]
    by_cases gs : sub = 0
    · simp only [if_pos gs]
      exact b35 _ _ (Or.inl rfl)
    · simp only [if_neg gs]
      exact b35 _ _ (Or.inr rfl)
  · rw [if_neg g, if_pos rfl, if_neg g]
    by_cases gs : sub = 0
    · rw [if_pos gs, if_pos gs, rs_47 h, bd_some, rz_14_8 h, hp.2.1]
      simp only [gd, ok_g hp, if_true]
      rw [ek]
      by_cases k2 : cK (it M w p) = 2
      · rw [if_pos k2, if_pos (Or.inl k2)]; exact same
      rw [if_neg k2]
      by_cases k3 : cK (it M w p) = 3
      · rw [if_pos k3, if_pos (Or.inr k3)]; exact same
      rw [if_neg k3, if_neg (show ¬ (cK (it M w p) = 2 ∨ cK (it M w p) = 3) from fun z => z.elim k2 k3), rs_55 h, bd_some, rz_16_9 h, hx.2.1]
      simp only [ok_g hx, if_true]
      rw [show mL M 16 9 x = (rg M x).2.2.2.1 from rfl, pm_below, bd_some]
      by_cases g4 : fn_lt 65535 (rg M x).2.2.2.1
      · rw [if_pos g4, if_neg (by decide), if_pos g4]; exact same
      rw [if_neg g4, if_pos rfl, if_neg g4]
      have kx : cK (it M w p) = 1 ∨ cK (it M w p) = 4 ∨ cK (it M w p) = 7 := by
        rcases hk with r | r | r | r
        · exact absurd r k2
        · exact absurd r k3
        · exact Or.inr (Or.inl r)
        · exact Or.inr (Or.inr r)
      have eX : cX (it M w p) = rg M p := by
        have kx' : mI M 14 8 p = 1 ∨ mI M 14 8 p = 4 ∨ mI M 14 8 p = 7 := kx
        unfold it cn
        exact if_pos kx'
      obtain ⟨N, a1, a2, a3⟩ := hop
      have fN : rf (mS p) mT M N := rf_q (rq_mono a3 (fun i hi => hi.elim (fun z => Or.inr (Or.inl z)) (fun z => Or.inr (Or.inr z))))
      have hN : ps_M N := rf_ps fN h
      have e0 : fn_op 0 0 (rg M p) (rg M x) = fn_fin (fn_rawT (cX (it M w p)) (rg M x) 0) := by rw [eX]; rfl
      rw [e0] at a2
      rw [a1, bd_some]
      rw [show mL N 16 9 30080 = (rg N 30080).2.2.2.1 from rfl, a2]
      generalize fn_fin (fn_rawT (cX (it M w p)) (rg M x) 0) = Z at a2
      rw [if_pos (show (30080 : Nat) < 30081 by decide), pm_below, bd_some]
      by_cases g5 : fn_lt 65535 Z.2.2.2.1
      · rw [if_pos g5, if_neg (by decide), if_pos g5]
        exact ⟨N, 11, rfl, rG_f fN, fun q => by rw [a3.1], rfl⟩
      rw [if_neg g5, if_pos rfl, if_neg g5, hcp N hN, bd_some, a2]
      have IB : mI (rt N p Z) = mI M := a3.1
      have fB : rf (mS p) mT M (rt N p Z) := rf_trans fN (rf_rt (Or.inl rfl))
      have rB : rg (rt N p Z) p = Z := rg_t
      generalize rt N p Z = B at IB fB rB
      rw [show mI B 14 8 p = cK (it M w p) from by rw [IB]; rfl]
      by_cases k4 : cK (it M w p) = 4
      · rw [if_pos k4, if_pos k4]
        simp only [rs_50 h, bd_some, rz_13_8 h, rs_51 h, rz_13_9 h, hp.2.1, ok_g hp, if_true, st_eq]
        obtain ⟨C, hC⟩ : ∃ C, C = wI B 1 0 59 (mI B 1 0 59 + 1) := ⟨_, rfl⟩
        rw [← hC]
        have fC : rG (mS p) mT M C := by rw [hC]; exact rG_trans (rG_f fB) rG_59
        have C59 : mI C 1 0 59 = mI M 1 0 59 + 1 := by rw [hC, pI_same, IB]
        have Co : ∀ a b f, ¬ a = 1 → mI C a b f = mI M a b f := by
          intro a b f ha
          rw [hC, pI_I, if_neg (fun z => ha z.1), IB]
        have rC : rg C p = Z := by rw [hC, rg_I]; exact rB
        rw [C59]
        obtain ⟨D, hD⟩ : ∃ D, D = wI C 13 8 p (mI M 1 0 59 + 1) := ⟨_, rfl⟩
        rw [← hD]
        have fD : rG (mS p) mT M D := by rw [hD]; exact rG_trans fC (rG_f (rf_I iA8 (Or.inl rfl)))
        have D8 : mI D 13 8 p = mI M 1 0 59 + 1 := by rw [hD]; exact pI_same
        have Do : ∀ a b f, ¬ a = 1 → ¬ (a = 13 ∧ b = 8) → mI D a b f = mI M a b f := by
          intro a b f ha hb
          rw [hD, pI_I, if_neg (fun z => hb ⟨z.1, z.2.1⟩)]
          exact Co a b f ha
        have D59 : mI D 1 0 59 = mI M 1 0 59 + 1 := by rw [hD, pI_I, if_neg (fun z => absurd z.1 (by decide))]; exact C59
        have rD : rg D p = Z := by rw [hD, rg_I]; exact rC
        obtain ⟨E, hE⟩ : ∃ E, E = wI D 13 9 p 0 := ⟨_, rfl⟩
        rw [← hE]
        have fE : rG (mS p) mT M E := by rw [hE]; exact rG_trans fD (rG_f (rf_I iA9 (Or.inl rfl)))
        have E9 : mI E 13 9 p = 0 := by rw [hE]; exact pI_same
        have E8 : mI E 13 8 p = mI M 1 0 59 + 1 := by rw [hE, pI_I, if_neg (fun z => absurd z.2.1 (by decide))]; exact D8
        have Eo : ∀ a b f, ¬ a = 1 → ¬ (a = 13 ∧ b = 8) → ¬ (a = 13 ∧ b = 9) → mI E a b f = mI M a b f := by
          intro a b f ha hb hc
          rw [hE, pI_I, if_neg (fun z => hc ⟨z.1, z.2.1⟩)]
          exact Do a b f ha hb
        have E59 : mI E 1 0 59 = mI M 1 0 59 + 1 := by rw [hE, pI_I, if_neg (fun z => absurd z.1 (by decide))]; exact D59
        have rE : rg E p = Z := by rw [hE, rg_I]; exact rD
        refine ⟨E, 0, rfl, fE, fun q => Eo 14 8 q (by decide) (fun z => absurd z.1 (by decide)) (fun z => absurd z.1 (by decide)), rfl, ?_, E59⟩
        have k4' : mI M 14 8 p = 4 := k4
        have eE : it E w p = cn 4 (mI M 13 6 p) (mI M 13 7 p) (mI M 1 0 59 + 1) 0 w Z := by
          unfold it
          rw [rE, E9, E8, Eo 14 8 p (by decide) (fun z => absurd z.1 (by decide)) (fun z => absurd z.1 (by decide)), Eo 13 6 p (by decide) (fun z => absurd z.2 (by decide)) (fun z => absurd z.2 (by decide)), Eo 13 7 p (by decide) (fun z => absurd z.2 (by decide)) (fun z => absurd z.2 (by decide)), k4']
        have eM : it M w p = cn 4 (mI M 13 6 p) (mI M 13 7 p) (mI M 13 8 p) (mI M 13 9 p) w (rg M p) := by
          unfold it
          rw [k4']
        rw [eE, eM, cn4, cn4]
      · rw [if_neg k4, if_neg k4]
        refine ⟨B, 0, rfl, rG_f fB, fun q => by rw [IB], rfl, ?_, by rw [IB]⟩
        have k7' : mI M 14 8 p = 7 := by
          rcases hk with r | r | r | r
          · exact absurd r k2
          · exact absurd r k3
          · exact absurd r k4
          · exact r
        unfold it
        rw [rB, IB]
        unfold cn
        simp [k7']
    · rw [if_neg gs, if_neg gs]
      exact same
end RA
