/-! PURE: the reference's arithmetic, whole. -/
def rk (M1 : me_M) (r : Int32) (o : sR) : Prop := match o with
  | .error f => r = f
  | .ok q => r = 0 ∧ (∀ i, i < 75 → rv M1 0 i = q.1 i) ∧ mI M1 1 0 59 = q.2
section RB
variable {M M1 M2 : me_M} {c : Int64}
theorem rv_r {i : Nat} (h : i < 11) : rv M 0 i = it M 0 i := by
  unfold rv rho
  rw [if_pos h, if_pos h, Nat.mul_zero, Nat.zero_add]
theorem rv_g {i : Nat} (h : 11 ≤ i) : rv M 0 i = it M (mI M 13 10 (74 - i)) (85 - i) := by
  unfold rv rho
  rw [if_neg (by omega), if_neg (by omega)]
  simp only [Nat.mul_zero, Nat.zero_add]
theorem ok_n {i : Nat} (h : i < 30081) : ok (nI i) i := ⟨nI_ps (by omega), nI_tn (by omega), h⟩
/-- a register is changed, and scratch -/
abbrev tS (t : Nat) : Nat → Prop := fun i => i = t ∨ 30075 ≤ i
theorem fin_r {t : Nat} (ht : t < 11) (g : rG (tS t) mT M M1) : ∀ i, i < 75 → rv M1 0 i = up (rv M 0) t (it M1 0 t) i := by
  intro i hi
  unfold up
  by_cases e : i = t
  · rw [if_pos e, e, rv_r ht]
  · rw [if_neg e]
    by_cases h : i < 11
    · rw [rv_r h, rv_r h]
      exact rG_it g (fun z => z.elim e (fun q => by omega))
    · rw [rv_g (by omega), rv_g (by omega), g.2.2.2.1 13 10 (74 - i) (fun z => by
        rcases z.1 with q | q
        · exact absurd q.1 (by decide)
        · omega) (fun z => z.2.2) (fun z => absurd z.1 (by decide))]
      exact rG_it g (fun z => by omega)
theorem tS_X {t : Nat} (ht : t < 11) (g : rG (tS t) mT M M1) : rG rX (fun f => f < 64) M M1 := rG_mono g (fun i z => z.elim (fun q => Or.inl (by omega)) Or.inr) (fun i z => z.elim)
theorem kv_ii {i n : Nat} {p m d r : Int32} (h : kv M) (hn : n < 9) : kv (ii M i (nI n) p m d r) := by
  intro x
  have e : mI (ii M i (nI n) p m d r) 14 8 x = if x = i then nI n else mI M 14 8 x := by
    unfold ii
    simp only [pI_I]
    by_cases g : x = i
    · rw [if_neg (fun z => absurd z.1 (by decide)), if_neg (fun z => absurd z.1 (by decide)), if_neg (fun z => absurd z.1 (by decide)), if_neg (fun z => absurd z.1 (by decide)), if_pos ⟨trivial, trivial, g⟩, if_pos g]
    · rw [if_neg (fun z => absurd z.1 (by decide)), if_neg (fun z => absurd z.1 (by decide)), if_neg (fun z => absurd z.1 (by decide)), if_neg (fun z => absurd z.1 (by decide)), if_neg (fun z => g z.2.2), if_neg g]
  rw [e]
  by_cases g : x = i
  · rw [if_pos g]; exact ⟨n, hn, rfl⟩
  · rw [if_neg g]; exact h x
theorem kv_eq (h : kv M) (e : ∀ q, mI M1 14 8 q = mI M 14 8 q) : kv M1 := by
  intro x
  rw [e x]
  exact h x
theorem rt_I {i : Nat} {z : fn_N} : mI (rt M i z) = mI M := rfl
theorem kv_rt {i : Nat} {z : fn_N} (h : kv M) : kv (rt M i z) := kv_eq h (fun q => by rw [rt_I])
theorem fn_op11 {nar : Int32} {x y z : fn_N} : fn_op 11 nar x y = fn_op 11 nar x z := by
  have raw : ∀ a b d : fn_N, fn_rawT a b 11 = fn_rawT a d 11 := by
    intro a b d
    unfold fn_rawT fn_raw
    rw [if_neg (by decide), if_neg (by decide), if_neg (by decide), if_neg (by decide), if_neg (by decide), if_neg (by decide), if_neg (by decide), if_neg (by decide), if_pos rfl, if_neg (by decide), if_neg (by decide), if_neg (by decide), if_neg (by decide), if_neg (by decide), if_neg (by decide), if_neg (by decide), if_neg (by decide), if_pos rfl]
  unfold fn_op fn_opk
  rw [raw x y z, raw (fn_narT x) (fn_by5 11 (fn_narT y)) (fn_by5 11 (fn_narT z)), if_neg (show ¬ (11 : Int32) = 10 by decide), if_neg (show ¬ (11 : Int32) = 10 by decide)]
/-- an operation into a register of numbers -/
theorem rop (h : ps_M M) (hk : kv M) {op nar : Int32} {t j : Nat} (ht : t < 11) (hj : j < 11 ∨ j = 30078) {yi : Int32} (hy : ok yi j) (ho : op_ok op) (k1 : cK (it M 0 t) = 1) : ∃ M1, f_M_operate M 0 (nI t) op (nI t) yi nar = some M1 ∧ it M1 0 t = s_num (fn_op op nar (rg M t) (rg M j)) ∧ rG (tS t) mT M M1 ∧ kv M1 ∧ mI M1 1 0 59 = mI M 1 0 59 := by
  obtain ⟨N, a1, a2, a3⟩ := pm_op h (op := op) (nar := nar) (ok_n (show t < 30081 by omega)) hy (ok_n (show t < 30081 by omega)) (by omega) ho
  have k1' : mI M 14 8 t = 1 := k1
  refine ⟨N, a1, ?_, rG_f (rf_q (rq_mono a3 (fun i hi => hi.elim (fun z => Or.inr (by rcases z with q | q | q <;> omega)) Or.inl))), kv_eq hk (fun q => by rw [a3.1]), by rw [a3.1]⟩
  unfold it
  rw [a2, a3.1, k1']
  unfold cn
  simp
theorem it_x {x : Nat} (h1 : cK (it M 0 x) = 1 ∨ cK (it M 0 x) = 4 ∨ cK (it M 0 x) = 7) : cX (it M 0 x) = rg M x := by
  have h : mI M 14 8 x = 1 ∨ mI M 14 8 x = 4 ∨ mI M 14 8 x = 7 := h1
  unfold it cn
  exact if_pos h
theorem it_c {x y : Nat} (hb : bI M) (h : ps_M M) {xi yi : Int32} (hx : ok xi x) (hy : ok yi y) : ∃ M1, f_M_copyItem M 0 xi yi = some M1 ∧ it M1 0 y = it M 0 x ∧ rf (fun i => i = y) mT M M1 ∧ mI M1 14 8 y = mI M 14 8 x := by
  refine ⟨_, pi_copy h hb hx hy, ?_, rf_trans (rf_ii rfl) (rf_rt rfl), ?_⟩
  · rw [it_both]
    rfl
  · rw [rt_I]
    unfold ii
    rw [pI_I, if_neg (fun z => absurd z.1 (by decide)), pI_I, if_neg (fun z => absurd z.1 (by decide)), pI_I, if_neg (fun z => absurd z.1 (by decide)), pI_I, if_neg (fun z => absurd z.1 (by decide)), pI_same]
theorem kv_f {S T : Nat → Prop} {y x : Nat} (h : kv M) (g : rf (fun i => i = y) T M M1) (e : mI M1 14 8 y = mI M 14 8 x) : kv M1 := by
  intro q
  by_cases c : q = y
  · rw [c, e]; exact h x
  · rw [g.2.2.2.1 14 8 q (fun z => c z.2) (fun z => absurd z.1 (by decide))]; exact h q
/-- a pointer and something: t, x are places; x is a register or FIELD -/
theorem rptr (h : ps_M M) (hk : kv M) {t x : Nat} (ht : t < 11) (hx : x < 11 ∨ x = 30078) {xx : Int32} (ox : ok xx x) {sub : Int32} (hs : sub = 0 ∨ sub = 1) (hbt : -65535 ≤ (cPl (it M 0 t)).toInt ∧ (cPl (it M 0 t)).toInt ≤ 65535) (hbx : -65535 ≤ (cPl (it M 0 x)).toInt ∧ (cPl (it M 0 x)).toInt ≤ 65535) (hn : ¬ (cK (it M 0 t) = 1 ∧ cK (it M 0 x) = 1)) : ∃ M1 r, f_M_pointers M 0 (nI t) xx sub = some (M1, r) ∧ rG (tS t) mT M M1 ∧ kv M1 ∧ match (if c_ptr (it M 0 t) ∧ cK (it M 0 x) = 1 then s_mv (rv M 0) t (s_sh sub (it M 0 t) (cX (it M 0 x)) (mI M 1 0 59)) else if sub = 0 ∧ cK (it M 0 t) = 1 ∧ c_ptr (it M 0 x) then s_mv (rv M 0) t (s_sh sub (it M 0 x) (cX (it M 0 t)) (mI M 1 0 59)) else if c_ofp (it M 0 t) ∧ c_ofp (it M 0 x) ∧ sub = 1 then .ok (up (rv M 0) t (s_num fn_any), mI M 1 0 59) else .error 11 : sR) with
    | .error f => r = f
    | .ok q => r = 0 ∧ (∀ i, i < 75 → rv M1 0 i = q.1 i) ∧ mI M1 1 0 59 = q.2 := by
  obtain ⟨n, hn1, en⟩ := hk t
  obtain ⟨m, hm1, em⟩ := hk x
  have hb := kv_b hk
  have ot : ok (nI t) t := ok_n (by omega)
  have eK : cK (it M 0 t) = nI n := en
  have eX : cK (it M 0 x) = nI m := em
  have bad : ∀ o : sR, o = .error 11 → ∃ M1 r, (some (M, (11 : Int32)) : Option (me_M × Int32)) = some (M1, r) ∧ rG (tS t) mT M M1 ∧ kv M1 ∧ match o with
      | .error f => r = f
      | .ok q => r = 0 ∧ (∀ i, i < 75 → rv M1 0 i = q.1 i) ∧ mI M1 1 0 59 = q.2 := by
    intro o ho
    subst ho
    exact ⟨M, 11, rfl, rG_refl, hk, rfl⟩
  -- t moved by x
  have mvA : c_ptr (it M 0 t) → cK (it M 0 x) = 1 → ∃ M1 r, b2 (f_M_moves M 0 (nI t) xx sub) (fun M20 r21 => some (M20, r21)) = some (M1, r) ∧ rG (tS t) mT M M1 ∧ kv M1 ∧ match (s_mv (rv M 0) t (s_sh sub (it M 0 t) (cX (it M 0 x)) (mI M 1 0 59)) : sR) with
      | .error f => r = f
      | .ok q => r = 0 ∧ (∀ i, i < 75 → rv M1 0 i = q.1 i) ∧ mI M1 1 0 59 = q.2 := by
    intro c1 c2
    obtain ⟨M1, r, a1, a2, a3, a4⟩ := pm_moves h ot ox (by omega) ⟨by rintro (z | z | z) <;> omega, by omega⟩ (sub := sub) (w := 0) c1 hbt.1 hbt.2
    rw [← it_x (Or.inl c2)] at a4
    have g : rG (tS t) mT M M1 := rG_mono a2 (fun i hi => by rcases hi with z | z | z; exact Or.inl z; exact Or.inr (by rcases z with q | q | q <;> omega); exact Or.inr (by omega)) (fun i z => z)
    rw [a1, b2_some]
    refine ⟨M1, r, rfl, g, kv_eq hk a3, ?_⟩
    cases hh : s_sh sub (it M 0 t) (cX (it M 0 x)) (mI M 1 0 59) with
    | none => rw [hh] at a4; exact a4
    | some q =>
      rw [hh] at a4
      refine ⟨a4.1, ?_, a4.2.2⟩
      intro i hi
      rw [fin_r ht g i hi, a4.2.1]
  -- x moved by t, into t
  have b87 : ∃ M1 r, f_M_pointers_b87 0 (nI t) xx sub M = some (M1, r) ∧ rG (tS t) mT M M1 ∧ kv M1 ∧ match (if sub = 0 ∧ cK (it M 0 t) = 1 ∧ c_ptr (it M 0 x) then s_mv (rv M 0) t (s_sh sub (it M 0 x) (cX (it M 0 t)) (mI M 1 0 59)) else .error 11 : sR) with
      | .error f => r = f
      | .ok q => r = 0 ∧ (∀ i, i < 75 → rv M1 0 i = q.1 i) ∧ mI M1 1 0 59 = q.2 := by
    unfold f_M_pointers_b87
    by_cases gs : sub = 0
    · rw [if_pos gs, pi_isPointer h ox hm1 em, b2_some, ← eX]
      by_cases gp : c_ptr (it M 0 x)
      · rw [if_pos gp, if_neg (by decide), pi_isNumber h ot, b2_some]
        by_cases g1 : mI M 14 8 t = 1
        · rw [if_pos g1, if_neg (by decide), if_pos (show sub = 0 ∧ cK (it M 0 t) = 1 ∧ c_ptr (it M 0 x) from ⟨gs, g1, gp⟩)]
          have k1 : cK (it M 0 t) = 1 := g1
          obtain ⟨A, a1, a2, a3, a4⟩ := it_c hb h ox ok_S
          rw [a1, bd_some]
          have hA : ps_M A := rf_ps a3 h
          have kA2 : kv A := kv_f (S := mT) hk a3 a4
          obtain ⟨B, b1', b2', b3', b4'⟩ := it_c (kv_b kA2) hA ot ok_F
          rw [b1', bd_some]
          have hB : ps_M B := rf_ps b3' hA
          have kB2 : kv B := kv_f (S := mT) kA2 b3' b4'
          have i1 : it B 0 30079 = it M 0 x := by rw [rf_it b3' (by decide)]; exact a2
          have i2 : it B 0 30078 = it M 0 t := by rw [b2', rf_it a3 (by omega)]
          have r2 : rg B 30078 = cX (it M 0 t) := by rw [← i2]; exact (it_x (Or.inl (by rw [i2]; exact k1))).symm
          have e59 : mI B 1 0 59 = mI M 1 0 59 := by rw [b3'.2.2.2.1 1 0 59 (fun z => by rcases z.1 with q | q <;> exact absurd q.1 (by decide)) (fun z => absurd z.1 (by decide)), a3.2.2.2.1 1 0 59 (fun z => by rcases z.1 with q | q <;> exact absurd q.1 (by decide)) (fun z => absurd z.1 (by decide))]
          obtain ⟨C, r, c1, c2, c3, c4⟩ := pm_moves hB ok_S ok_F (by decide) ⟨by rintro (z | z | z) <;> exact absurd z (by decide), by decide⟩ (sub := 0) (w := 0) (by rw [i1]; exact gp) (by rw [i1]; exact hbx.1) (by rw [i1]; exact hbx.2)
          rw [i1, r2, e59] at c4
          have gB : rG (tS t) mT M B := rG_trans (rG_f (rf_mono a3 (fun i z => Or.inr (by omega)) (fun i z => z))) (rG_f (rf_mono b3' (fun i z => Or.inr (by omega)) (fun i z => z)))
          have gC : rG (tS t) mT M C := rG_trans gB (rG_mono c2 (fun i hi => by rcases hi with z | z | z; exact Or.inr (by omega); exact Or.inr (by rcases z with q | q | q <;> omega); exact Or.inr (by omega)) (fun i z => z))
          have kC : kv C := kv_eq kB2 c3
          rw [c1, b2_some, gs]
          cases hh : s_sh 0 (it M 0 x) (cX (it M 0 t)) (mI M 1 0 59) with
          | none =>
            rw [hh] at c4
            rw [if_neg (by rw [c4]; decide)]
            exact ⟨C, r, rfl, gC, kC, c4⟩
          | some q =>
            rw [hh] at c4
            rw [if_pos c4.1]
            have hC : ps_M C := rG_ps gC h
            obtain ⟨D, d1, d2, d3, d4⟩ := it_c (kv_b kC) hC ok_S ot
            rw [d1, bd_some]
            have gD : rG (tS t) mT M D := rG_trans gC (rG_f (rf_mono d3 (fun i z => Or.inl z) (fun i z => z)))
            refine ⟨D, r, rfl, gD, kv_f (S := mT) kC d3 d4, c4.1, ?_, ?_⟩
            · intro i hi
              rw [fin_r ht gD i hi, d2, c4.2.1]
            · rw [d3.2.2.2.1 1 0 59 (fun z => by rcases z.1 with q | q <;> exact absurd q.1 (by decide)) (fun z => absurd z.1 (by decide))]
              exact c4.2.2
        · rw [if_neg g1, if_pos rfl]
          exact bad _ (if_neg (fun z => g1 z.2.1))
      · rw [if_neg gp, if_pos rfl]
        exact bad _ (if_neg (fun z => gp z.2.2))
    · rw [if_neg gs]
      exact bad _ (if_neg (fun z => gs z.1))
  have b63 : ∃ M1 r, f_M_pointers_b63 0 (nI t) xx sub M = some (M1, r) ∧ rG (tS t) mT M M1 ∧ kv M1 ∧ match (if c_ptr (it M 0 t) ∧ cK (it M 0 x) = 1 then s_mv (rv M 0) t (s_sh sub (it M 0 t) (cX (it M 0 x)) (mI M 1 0 59)) else if sub = 0 ∧ cK (it M 0 t) = 1 ∧ c_ptr (it M 0 x) then s_mv (rv M 0) t (s_sh sub (it M 0 x) (cX (it M 0 t)) (mI M 1 0 59)) else .error 11 : sR) with
      | .error f => r = f
      | .ok q => r = 0 ∧ (∀ i, i < 75 → rv M1 0 i = q.1 i) ∧ mI M1 1 0 59 = q.2 := by
    unfold f_M_pointers_b63
    rw [pi_isPointer h ot hn1 en, b2_some, ← eK]
    by_cases gp : c_ptr (it M 0 t)
    · rw [if_pos gp, if_neg (by decide), pi_isNumber h ox, b2_some]
      by_cases g1 : mI M 14 8 x = 1
      · rw [if_pos g1, if_neg (by decide), if_pos (show c_ptr (it M 0 t) ∧ cK (it M 0 x) = 1 from ⟨gp, g1⟩)]
        exact mvA gp g1
      · rw [if_neg g1, if_pos rfl, if_neg (show ¬ (c_ptr (it M 0 t) ∧ cK (it M 0 x) = 1) from fun z => g1 z.2)]
        exact b87
    · rw [if_neg gp, if_pos rfl, if_neg (show ¬ (c_ptr (it M 0 t) ∧ cK (it M 0 x) = 1) from fun z => gp z.1)]
      exact b87
  have b45 : ∀ s0 : Int32, (¬ s0 = 0 ↔ (c_ofp (it M 0 t) ∧ c_ofp (it M 0 x))) → ∃ M1 r, f_M_pointers_b45 0 (nI t) xx sub M s0 = some (M1, r) ∧ rG (tS t) mT M M1 ∧ kv M1 ∧ match (if c_ptr (it M 0 t) ∧ cK (it M 0 x) = 1 then s_mv (rv M 0) t (s_sh sub (it M 0 t) (cX (it M 0 x)) (mI M 1 0 59)) else if sub = 0 ∧ cK (it M 0 t) = 1 ∧ c_ptr (it M 0 x) then s_mv (rv M 0) t (s_sh sub (it M 0 x) (cX (it M 0 t)) (mI M 1 0 59)) else if c_ofp (it M 0 t) ∧ c_ofp (it M 0 x) ∧ sub = 1 then .ok (up (rv M 0) t (s_num fn_any), mI M 1 0 59) else .error 11 : sR) with
      | .error f => r = f
      | .ok q => r = 0 ∧ (∀ i, i < 75 → rv M1 0 i = q.1 i) ∧ mI M1 1 0 59 = q.2 := by
    intro s0 h0
    unfold f_M_pointers_b45
    by_cases gs : sub = 0
    · have n1 : ¬ sub = 1 := by rw [gs]; decide
      rw [if_pos gs, if_neg (show ¬ (c_ofp (it M 0 t) ∧ c_ofp (it M 0 x) ∧ sub = 1) from fun z => n1 z.2.2)]
      exact b63
    · have s1 : sub = 1 := hs.elim (fun z => absurd z gs) id
      rw [if_neg gs]
      by_cases g0 : s0 = 0
      · have no : ¬ (c_ofp (it M 0 t) ∧ c_ofp (it M 0 x) ∧ sub = 1) := fun z => (h0.mpr ⟨z.1, z.2.1⟩) g0
        rw [if_pos g0, if_neg no]
        exact b63
      · obtain ⟨o1, o2⟩ := h0.mp g0
        have nA : ¬ (c_ptr (it M 0 t) ∧ cK (it M 0 x) = 1) := fun z => by
          have z2 := z.2
          rcases o2 with q | q <;> rw [q] at z2 <;> exact absurd z2 (by decide)
        have nB : ¬ (sub = 0 ∧ cK (it M 0 t) = 1 ∧ c_ptr (it M 0 x)) := fun z => gs z.1
        rw [if_neg g0, if_neg nA, if_neg nB, if_pos ⟨o1, o2, s1⟩, pi_toAny h ot, bd_some]
        have g : rG (tS t) mT M (rt (ii M t 1 0 0 0 0) t fn_any) := rG_f (rf_trans (rf_ii (Or.inl rfl)) (rf_rt (Or.inl rfl)))
        refine ⟨_, 0, rfl, g, kv_rt (kv_ii (n := 1) hk (by decide)), rfl, ?_, ?_⟩
        · intro i hi
          rw [fin_r ht g i hi, it_both]
          rfl
        · rw [rt_I]
          unfold ii
          rw [pI_I, if_neg (fun z => absurd z.1 (by decide)), pI_I, if_neg (fun z => absurd z.1 (by decide)), pI_I, if_neg (fun z => absurd z.1 (by decide)), pI_I, if_neg (fun z => absurd z.1 (by decide)), pI_I, if_neg (fun z => absurd z.1 (by decide))]
  unfold f_M_pointers f_M_pointers_b20 f_M_pointers_b40 f_M_pointers_b44
  rw [rs_47 h, bd_some, rz_14_8 h, (ok_n (show t < 30081 by omega)).2.1]
  simp only [gd, ok_g ot, if_true, bd_some, rz_14_8 h, ox.2.1, ok_g ox]
  have ekt : mI M 14 8 t = cK (it M 0 t) := rfl
  have ekx : mI M 14 8 x = cK (it M 0 x) := rfl
  rw [ekt, ekx]
  have in1 : (c_ofp (it M 0 x)) → c_ofp (it M 0 t) → ∀ q : Int32, q = 1 → (¬ q = 0 ↔ (c_ofp (it M 0 t) ∧ c_ofp (it M 0 x))) := fun a b q hq => ⟨fun _ => ⟨b, a⟩, fun _ => by rw [hq]; decide⟩
  have in0 : ¬ (c_ofp (it M 0 t) ∧ c_ofp (it M 0 x)) → ∀ q : Int32, q = 0 → (¬ q = 0 ↔ (c_ofp (it M 0 t) ∧ c_ofp (it M 0 x))) := fun a q hq => ⟨fun z => absurd hq z, fun z => absurd z a⟩
  by_cases t4 : cK (it M 0 t) = 4
  · rw [if_pos t4]
    by_cases x4 : cK (it M 0 x) = 4
    · rw [if_pos x4]; exact b45 1 (in1 (Or.inl x4) (Or.inl t4) 1 rfl)
    rw [if_neg x4]
    by_cases x5 : cK (it M 0 x) = 5
    · rw [if_pos x5]; exact b45 1 (in1 (Or.inr x5) (Or.inl t4) 1 rfl)
    rw [if_neg x5]
    exact b45 0 (in0 (fun z => z.2.elim x4 x5) 0 rfl)
  rw [if_neg t4]
  by_cases t5 : cK (it M 0 t) = 5
  · rw [if_pos t5]
    by_cases x4 : cK (it M 0 x) = 4
    · rw [if_pos x4]; exact b45 1 (in1 (Or.inl x4) (Or.inr t5) 1 rfl)
    rw [if_neg x4]
    by_cases x5 : cK (it M 0 x) = 5
    · rw [if_pos x5]; exact b45 1 (in1 (Or.inr x5) (Or.inr t5) 1 rfl)
    rw [if_neg x5]
    exact b45 0 (in0 (fun z => z.2.elim x4 x5) 0 rfl)
  rw [if_neg t5]
  exact b45 0 (in0 (fun z => z.1.elim t4 t5) 0 rfl)
end RB
