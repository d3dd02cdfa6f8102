/-! PURE: the reference's arithmetic is s_arith. -/
theorem t_nar2 : ∀ n, n < 256 → (f_M_isNarrow (nI n)).isSome = true := by decide +kernel
section RC
variable {M M1 M2 : me_M} {c : Int64} {nm : Nat}
/-- the source: FROM, or FIELD in FIELD's place -/
theorem rsrc (h : ps_M M) (hk : kv M) (hf : d_fi c < 11) {n : Nat} (hn : n < 256) (hop : d_op c = nI n) (hfr : k_fr (nI n) = d_rf c) (h1 : ¬ d_opn c = 13) (h2 : ¬ d_opn c = 14) : ∃ N x xx, f_M_sourceOf M 0 c = some (N, xx) ∧ ok xx x ∧ (x < 11 ∨ x = 30078) ∧ it N 0 x = s_by c (rv M 0) ∧ ((N = M ∧ x = d_fi c ∧ ¬ d_rf c = 0) ∨ (N = rt (ii M 30078 1 0 0 0 0) 30078 (fn_ex (d_field c).toInt64) ∧ x = 30078 ∧ d_rf c = 0)) ∧ kv N := by
  obtain ⟨f, hf1, e3, e4⟩ := d_fi_n hf
  unfold f_M_sourceOf s_by
  rw [r_op, bd_some, hop, (t_in n hn).2.2, bd_some, hfr, r_field, bd_some, r_from, bd_some, pi_toNumber h ok_F, bd_some]
  by_cases g : d_rf c = 0
  · rw [if_pos g, if_pos g]
    refine ⟨_, 30078, 30078, rfl, ok_F, Or.inr rfl, ?_, Or.inr ⟨rfl, rfl, g⟩, kv_rt (kv_ii (n := 1) hk (by decide))⟩
    rw [it_both]
    unfold d_fn
    rw [if_neg (fun z => z.elim h2 h1)]
    rfl
  · rw [if_neg g, if_neg g, e3]
    refine ⟨M, f, nI f, rfl, ok_n (by omega), Or.inl hf1, ?_, Or.inl ⟨rfl, e4.symm, g⟩, hk⟩
    rw [e4, rv_r hf1]
theorem rarith (h : ps_M M) (hk : kv M) (hw : s_wf nm (rv M 0)) (ht : d_ti c < 11) (hf : d_fi c < 11) (f6 : d_fam c = 6) : ∃ M1 r, f_M_arithmetic M 0 c = some (M1, r) ∧ rG (tS (d_ti c)) mT M M1 ∧ kv M1 ∧ (s_unr c (rv M 0) → r = 10) ∧ (¬ s_unr c (rv M 0) → rk M1 r (s_arith c (rv M 0) (mI M 1 0 59))) := by
  obtain ⟨t, ht1, e1, e2⟩ := d_ti_n ht
  obtain ⟨n, hn, hop⟩ := fam_c c
  have eD : ∀ z, z = d_op c → (kd z) = kd (nI n) := by intro z hz; rw [hz, hop]
  have k6 : (kd (nI n)).1 = 6 := by rw [← hop]; exact f6
  have eo : (kd (nI n)).2.1 = d_opn c := by unfold d_opn; rw [hop]
  have en : (kd (nI n)).2.2.1 = d_nar c := by unfold d_nar; rw [hop]
  have er : (kd (nI n)).2.2.2.1 = d_rt c := by unfold d_rt; rw [hop]
  have ef : (kd (nI n)).2.2.2.2 = d_rf c := by unfold d_rf; rw [hop]
  have a1 := t_ar1 n hn k6
  have a2 := t_ar2 n hn k6
  have a3 := t_ar3 n hn k6
  have a4 := t_ar4 n hn k6
  have a5 := t_ar5 n hn k6
  rw [eo] at a1 a2 a3 a4 a5
  rw [er] at a2
  rw [ef, en] at a3 a4
  rw [ef] at a5
  have ook : op_ok (d_opn c) := by
    simp only [List.mem_cons, List.not_mem_nil, or_false] at a1
    exact a1
  have tR : rv M 0 t = it M 0 t := rv_r ht1
  have ekt : mI M 14 8 t = cK (rv M 0 t) := by rw [tR]; rfl
  have ot : ok (nI t) t := ok_n (by omega)
  obtain ⟨nv, hnv⟩ := Option.isSome_iff_exists.mp (t_nar2 n hn)
  have ri : k_ri (nI n) = if d_opn c = 11 then 7 else if d_opn c = 14 then 8 else if d_opn c = 13 then 9 else 6 := by
    unfold k_ri
    rw [if_pos k6, eo]
  rw [e2]
  unfold f_M_arithmetic
  rw [r_op, bd_some, hop, (t_in n hn).1, bd_some, st_eq, r_to, bd_some, hnv, bd_some, e1]
  -- the check of TO
  by_cases g12 : d_opn c = 12
  · -- MOVE
    have hri : k_ri (nI n) = 6 := by rw [ri, if_neg (by rw [g12]; decide), if_neg (by rw [g12]; decide), if_neg (by rw [g12]; decide)]
    have q11 : jishr (nI n) 4 = 11 := (t_opn2 n hn hri).mpr (eo.trans g12)
    have enar : nv = d_nar c := by
      have q := t_nar n hn (Or.inr ⟨k6, by rw [eo, g12]; decide, by rw [eo, g12]; decide⟩)
      rw [hnv, en] at q
      exact Option.some.inj q
    have hrf : k_fr (nI n) = d_rf c := by
      have q := t_rf n hn (Or.inr ⟨k6, by rw [eo, g12]; decide⟩)
      rw [ef] at q
      exact q
    have rt0 : d_rt c = 0 := by rw [a2, if_pos g12]
    rw [hri, if_pos rfl, if_pos q11]
    unfold f_M_arithmetic_b47 f_M_arithmetic_b67
    rw [if_neg (by decide), if_pos rfl]
    obtain ⟨N, x, xx, b1', b2', b3', b4', b5', b6'⟩ := rsrc h hk hf hn hop hrf (by rw [g12]; decide) (by rw [g12]; decide)
    have gN : rG (tS t) mT M N := by
      rcases b5' with z | z
      · rw [z.1]; exact rG_refl
      · rw [z.1]; exact rG_f (rf_trans (rf_ii (Or.inr (by decide))) (rf_rt (Or.inr (by decide))))
    have hN : ps_M N := rG_ps gN h
    have e59 : mI N 1 0 59 = mI M 1 0 59 := by
      rcases b5' with z | z
      · rw [z.1]
      · rw [z.1, rt_I]
        unfold ii
        rw [pI_I, if_neg (fun z => absurd z.1 (by decide)), pI_I, if_neg (fun z => absurd z.1 (by decide)), pI_I, if_neg (fun z => absurd z.1 (by decide)), pI_I, if_neg (fun z => absurd z.1 (by decide)), pI_I, if_neg (fun z => absurd z.1 (by decide))]
    rw [b1', b2_some, rs_47 h, bd_some, rz_14_8 h, b2'.2.1]
    simp only [gd, ok_g b2', if_true]
    have ekx : mI N 14 8 x = cK (s_by c (rv M 0)) := by rw [← b4']; rfl
    rw [ekx]
    by_cases k0 : cK (s_by c (rv M 0)) = 0
    · rw [if_pos k0]
      have nrf : ¬ d_rf c = 0 := by
        intro z
        unfold s_by at k0
        rw [if_pos z] at k0
        exact absurd (show (1 : Int32) = 0 from k0) (by decide)
      have un : s_unr c (rv M 0) := by
        refine Or.inr ⟨nrf, ?_⟩
        unfold s_by at k0
        rw [if_neg nrf] at k0
        exact k0
      exact ⟨N, 10, rfl, gN, b6', fun _ => rfl, fun z => absurd un z⟩
    · rw [if_neg k0, if_neg (by decide)]
      have nun : ¬ s_unr c (rv M 0) := by
        rintro (z | z)
        · exact z.1 rt0
        · apply k0
          unfold s_by
          rw [if_neg z.1]
          exact z.2
      unfold s_arith
      rw [e2]
      by_cases gn : d_nar c = 0
      · rw [enar, if_pos gn, if_pos ⟨g12, gn⟩]
        obtain ⟨P, d1, d2, d3, d4⟩ := it_c (kv_b b6') hN b2' ot
        rw [d1, bd_some]
        have gP : rG (tS t) mT M P := rG_trans gN (rG_f (rf_mono d3 (fun i z => Or.inl z) (fun i z => z)))
        refine ⟨P, 0, rfl, gP, kv_f (S := mT) b6' d3 d4, fun z => absurd z nun, fun _ => ⟨rfl, ?_, ?_⟩⟩
        · intro i hi
          rw [fin_r ht1 gP i hi, d2, b4']
        · rw [d3.2.2.2.1 1 0 59 (fun z => by rcases z.1 with q | q <;> exact absurd q.1 (by decide)) (fun z => absurd z.1 (by decide))]
          exact e59
      · rw [enar, if_neg gn, if_neg (show ¬ (d_opn c = 12 ∧ d_nar c = 0) from fun z => gn z.2)]
        unfold f_M_arithmetic_b197 f_M_arithmetic_b220 f_M_arithmetic_b241 f_M_arithmetic_b266
        rw [pi_isNumber hN b2', b2_some, ekx, if_neg gn]
        by_cases k1 : cK (s_by c (rv M 0)) = 1
        · rw [if_pos k1, if_neg (by decide), if_neg (by decide), if_pos ⟨k1, Or.inr g12⟩, t_opn1 n hn hri, eo, bd_some, if_neg (by decide)]
          obtain ⟨P, d1, d2, d3⟩ := pm_op hN (op := d_opn c) (nar := d_nar c) b2' b2' ok_U (by omega) ook
          rw [d1, bd_some]
          have hP : ps_M P := rq_ps d3 hN
          have kP : kv P := kv_eq b6' (fun q => by rw [d3.1])
          rw [pi_toNumber hP ot, bd_some]
          have hQ : ps_M (rt (ii P t 1 0 0 0 0) t (fn_ex 0)) := ps_t (ps_ii hP)
          rw [pm_copy hQ ok_U ot, bd_some, rg_L (by omega), rg_ii, d2]
          have gP : rG (tS t) mT M P := rG_trans gN (rG_f (rf_q (rq_mono d3 (fun i hi => Or.inr (hi.elim (fun z => by rcases z with q | q | q <;> omega) (fun z => by omega))))))
          rw [rt_two]
          have gF : rG (tS t) mT M (rt (ii P t 1 0 0 0 0) t (fn_op (d_opn c) (d_nar c) (rg N x) (rg N x))) := by
            exact rG_trans gP (rG_f (rf_trans (rf_ii (Or.inl rfl)) (rf_rt (Or.inl rfl))))
          have ex : rg N x = cX (s_by c (rv M 0)) := by rw [← b4']; exact (it_x (Or.inl (by rw [b4']; exact k1))).symm
          refine ⟨_, 0, rfl, gF, kv_rt (kv_ii (n := 1) kP (by decide)), fun z => absurd z nun, fun _ => ⟨rfl, ?_, ?_⟩⟩
          · intro i hi
            rw [fin_r ht1 gF i hi, it_both, ex, g12, fn_op12 (a := cX (s_by c (rv M 0))) (b := cX (rv M 0 t))]
            rfl
          · rw [rt_I]
            unfold ii
            rw [pI_I, if_neg (fun z => absurd z.1 (by decide)), pI_I, if_neg (fun z => absurd z.1 (by decide)), pI_I, if_neg (fun z => absurd z.1 (by decide)), pI_I, if_neg (fun z => absurd z.1 (by decide)), pI_I, if_neg (fun z => absurd z.1 (by decide)), d3.1]
            exact e59
        · rw [if_neg k1, if_pos rfl, if_neg (show ¬ (cK (s_by c (rv M 0)) = 1 ∧ (cK (rv M 0 t) = 1 ∨ d_opn c = 12)) from fun z => k1 z.1), if_pos (show ¬ d_nar c = 0 ∨ 1 < d_opn c from Or.inl gn)]
          exact ⟨N, 11, rfl, gN, b6', fun z => absurd z nun, fun _ => rfl⟩
  · have rt1 : ¬ d_rt c = 0 := by rw [a2, if_neg g12]; decide
    have b46 : ∀ (y4 y5 : Int32), (y4 = k_ri (nI n)) → (y5 = jishr (nI n) 4) → ∃ M1 r, f_M_arithmetic_b46 0 c M y4 y5 (nI t) nv = some (M1, r) ∧ rG (tS t) mT M M1 ∧ kv M1 ∧ (s_unr c (rv M 0) → r = 10) ∧ (¬ s_unr c (rv M 0) → rk M1 r (s_arith c (rv M 0) (mI M 1 0 59))) := by
      intro y4 y5 hy4 hy5
      unfold f_M_arithmetic_b46 f_M_arithmetic_b47
      rw [if_pos rfl, rs_47 h, bd_some, rz_14_8 h, ot.2.1]
      simp only [gd, ok_g ot, if_true]
      rw [ekt]
      by_cases t0 : cK (rv M 0 t) = 0
      · rw [if_pos t0]
        have un : s_unr c (rv M 0) := Or.inl ⟨rt1, by rw [e2]; exact t0⟩
        exact ⟨M, 10, rfl, rG_refl, hk, fun _ => rfl, fun z => absurd un z⟩
      rw [if_neg t0]
      unfold f_M_arithmetic_b67
      by_cases r6 : k_ri (nI n) = 6
      · have n11 : ¬ d_opn c = 11 := by intro z; rw [ri, if_pos z] at r6; exact absurd r6 (by decide)
        have n14 : ¬ d_opn c = 14 := by intro z; rw [ri, if_neg n11, if_pos z] at r6; exact absurd r6 (by decide)
        have n13 : ¬ d_opn c = 13 := by intro z; rw [ri, if_neg n11, if_neg n14, if_pos z] at r6; exact absurd r6 (by decide)
        have enar : nv = d_nar c := by
          have q := t_nar n hn (Or.inr ⟨k6, by rw [eo]; exact n13, by rw [eo]; exact n14⟩)
          rw [hnv, en] at q
          exact Option.some.inj q
        have hrf : k_fr (nI n) = d_rf c := by
          have q := t_rf n hn (Or.inr ⟨k6, by rw [eo]; exact n13⟩)
          rw [ef] at q
          exact q
        rw [hy4, if_pos r6]
        obtain ⟨N, x, xx, b1', b2', b3', b4', b5', b6'⟩ := rsrc h hk hf hn hop hrf n13 n14
        have gN : rG (tS t) mT M N := by
          rcases b5' with z | z
          · rw [z.1]; exact rG_refl
          · rw [z.1]; exact rG_f (rf_trans (rf_ii (Or.inr (by decide))) (rf_rt (Or.inr (by decide))))
        have gN2 : rG (fun i => i = 30078) mT M N := by
          rcases b5' with z | z
          · rw [z.1]; exact rG_refl
          · rw [z.1]; exact rG_f (rf_trans (rf_ii rfl) (rf_rt rfl))
        have hN : ps_M N := rG_ps gN h
        have e59 : mI N 1 0 59 = mI M 1 0 59 := by
          rcases b5' with z | z
          · rw [z.1]
          · rw [z.1, rt_I]
            unfold ii
            rw [pI_I, if_neg (fun z => absurd z.1 (by decide)), pI_I, if_neg (fun z => absurd z.1 (by decide)), pI_I, if_neg (fun z => absurd z.1 (by decide)), pI_I, if_neg (fun z => absurd z.1 (by decide)), pI_I, if_neg (fun z => absurd z.1 (by decide))]
        have tN : it N 0 t = rv M 0 t := by rw [tR]; exact rG_it gN2 (by omega)
        have rvN : ∀ i, i < 75 → rv N 0 i = rv M 0 i := by
          intro i hi
          rw [fin_r ht1 gN i hi, tN]
          unfold up
          by_cases e : i = t
          · rw [if_pos e, e]
          · rw [if_neg e]
        rw [b1', b2_some, rs_47 h, bd_some, rz_14_8 h, b2'.2.1]
        simp only [gd, ok_g b2', if_true]
        have ekx : mI N 14 8 x = cK (s_by c (rv M 0)) := by rw [← b4']; rfl
        have ektN : mI N 14 8 t = cK (rv M 0 t) := by rw [← tN]; rfl
        rw [ekx]
        by_cases k0 : cK (s_by c (rv M 0)) = 0
        · rw [if_pos k0]
          have nrf : ¬ d_rf c = 0 := by
            intro z
            unfold s_by at k0
            rw [if_pos z] at k0
            exact absurd (show (1 : Int32) = 0 from k0) (by decide)
          have un : s_unr c (rv M 0) := by
            refine Or.inr ⟨nrf, ?_⟩
            unfold s_by at k0
            rw [if_neg nrf] at k0
            exact k0
          exact ⟨N, 10, rfl, gN, b6', fun _ => rfl, fun z => absurd un z⟩
        rw [if_neg k0]
        have nun : ¬ s_unr c (rv M 0) := by
          rintro (z | z)
          · rw [e2] at z; exact t0 z.2
          · apply k0
            unfold s_by
            rw [if_neg z.1]
            exact z.2
        have b266 : ¬ (cK (s_by c (rv M 0)) = 1 ∧ cK (rv M 0 t) = 1) → ∃ M1 r, f_M_arithmetic_b266 0 N y5 (nI t) nv xx = some (M1, r) ∧ rG (tS t) mT M M1 ∧ kv M1 ∧ (s_unr c (rv M 0) → r = 10) ∧ (¬ s_unr c (rv M 0) → rk M1 r (s_arith c (rv M 0) (mI M 1 0 59))) := by
          intro nn
          unfold f_M_arithmetic_b266 s_arith
          rw [e2, if_neg (show ¬ (d_opn c = 12 ∧ d_nar c = 0) from fun z => g12 z.1), if_neg (show ¬ (cK (s_by c (rv M 0)) = 1 ∧ (cK (rv M 0 t) = 1 ∨ d_opn c = 12)) from fun z => z.2.elim (fun q => nn ⟨z.1, q⟩) g12), enar]
          by_cases gn : d_nar c = 0
          · rw [if_pos gn]
            have le := t_opn3 n hn r6
            rw [eo, ← hy5] at le
            have e1' := t_opn4 n hn r6
            rw [eo, ← hy5] at e1'
            by_cases g5 : y5 ≤ 1
            · have q1 : d_opn c ≤ 1 := le.mp g5
              rw [if_pos g5, if_neg (show ¬ (¬ d_nar c = 0 ∨ 1 < d_opn c) from fun z => z.elim (fun q => q gn) (fun q => by rw [Int32.lt_iff_toInt_lt] at q; rw [Int32.le_iff_toInt_le] at q1; omega))]
              have hb := (hw t (by omega)).1
              have hbx : -65535 ≤ (cPl (it N 0 x)).toInt ∧ (cPl (it N 0 x)).toInt ≤ 65535 := by
                rw [b4']
                unfold s_by
                by_cases z : d_rf c = 0
                · rw [if_pos z]; exact (show -65535 ≤ (0 : Int32).toInt ∧ (0 : Int32).toInt ≤ 65535 from by decide)
                · rw [if_neg z]; exact (hw (d_fi c) (by omega)).1
              have key : ∀ sub : Int32, (sub = 0 ∨ sub = 1) → sub = s_sub c → (sub = 0 ↔ d_opn c = 0) → (sub = 1 ↔ d_opn c = 1) → ∃ M1 r, b2 (f_M_pointers N 0 (nI t) xx sub) (fun M6 r7 => some (M6, r7)) = some (M1, r) ∧ rG (tS t) mT M M1 ∧ kv M1 ∧ (s_unr c (rv M 0) → r = 10) ∧ (¬ s_unr c (rv M 0) → rk M1 r (if c_ptr (rv M 0 t) ∧ cK (s_by c (rv M 0)) = 1 then s_mv (rv M 0) t (s_sh (s_sub c) (rv M 0 t) (cX (s_by c (rv M 0))) (mI M 1 0 59)) else if d_opn c = 0 ∧ cK (rv M 0 t) = 1 ∧ c_ptr (s_by c (rv M 0)) then s_mv (rv M 0) t (s_sh (s_sub c) (s_by c (rv M 0)) (cX (rv M 0 t)) (mI M 1 0 59)) else if c_ofp (rv M 0 t) ∧ c_ofp (s_by c (rv M 0)) ∧ d_opn c = 1 then .ok (up (rv M 0) t (s_num fn_any), mI M 1 0 59) else .error 11)) := by
                intro sub hsub hs1 hs2 hs3
                obtain ⟨P, r, d1, d2, d3, d4⟩ := rptr hN b6' ht1 b3' b2' hsub (by rw [tN]; exact hb) hbx (by rw [tN, b4']; exact fun z => nn ⟨z.2, z.1⟩)
                rw [tN, b4', e59, hs1] at d4
                rw [d1, b2_some]
                refine ⟨P, r, rfl, rG_trans gN d2, d3, fun z => absurd z nun, fun _ => ?_⟩
                have up_c : ∀ z : sC, ∀ i, i < 75 → up (rv N 0) t z i = up (rv M 0) t z i := by
                  intro z i hi
                  unfold up
                  by_cases e : i = t
                  · rw [if_pos e, if_pos e]
                  · rw [if_neg e, if_neg e, rvN i hi]
                have mvc : ∀ o : Option (sC × Int32), (match (s_mv (rv N 0) t o : sR) with | .error f => r = f | .ok q => r = 0 ∧ (∀ i, i < 75 → rv P 0 i = q.1 i) ∧ mI P 1 0 59 = q.2) → rk P r (s_mv (rv M 0) t o) := by
                  intro o ho
                  cases o with
                  | none => exact ho
                  | some q => exact ⟨ho.1, fun i hi => (ho.2.1 i hi).trans (up_c q.1 i hi), ho.2.2⟩
                by_cases cA : c_ptr (rv M 0 t) ∧ cK (s_by c (rv M 0)) = 1
                · rw [if_pos cA] at d4 ⊢
                  exact mvc _ d4
                rw [if_neg cA] at d4 ⊢
                by_cases cB : d_opn c = 0 ∧ cK (rv M 0 t) = 1 ∧ c_ptr (s_by c (rv M 0))
                · rw [if_pos (show s_sub c = 0 ∧ cK (rv M 0 t) = 1 ∧ c_ptr (s_by c (rv M 0)) from ⟨by rw [← hs1]; exact hs2.mpr cB.1, cB.2⟩)] at d4
                  rw [if_pos cB]
                  exact mvc _ d4
                rw [if_neg (show ¬ (s_sub c = 0 ∧ cK (rv M 0 t) = 1 ∧ c_ptr (s_by c (rv M 0))) from fun z => cB ⟨hs2.mp (by rw [hs1]; exact z.1), z.2⟩)] at d4
                rw [if_neg cB]
                by_cases cC : c_ofp (rv M 0 t) ∧ c_ofp (s_by c (rv M 0)) ∧ d_opn c = 1
                · rw [if_pos (show c_ofp (rv M 0 t) ∧ c_ofp (s_by c (rv M 0)) ∧ s_sub c = 1 from ⟨cC.1, cC.2.1, by rw [← hs1]; exact hs3.mpr cC.2.2⟩)] at d4
                  rw [if_pos cC]
                  exact ⟨d4.1, fun i hi => (d4.2.1 i hi).trans (up_c _ i hi), d4.2.2⟩
                rw [if_neg (show ¬ (c_ofp (rv M 0 t) ∧ c_ofp (s_by c (rv M 0)) ∧ s_sub c = 1) from fun z => cC ⟨z.1, z.2.1, hs3.mp (by rw [hs1]; exact z.2.2)⟩)] at d4
                rw [if_neg cC]
                exact d4
              by_cases y1 : y5 = 1
              · have o1 : d_opn c = 1 := e1'.mp y1
                rw [if_pos y1]
                exact key 1 (Or.inr rfl) (by unfold s_sub; rw [if_pos o1]) ⟨fun z => absurd z (by decide), fun z => by rw [o1] at z; exact absurd z (by decide)⟩ ⟨fun _ => o1, fun _ => rfl⟩
              · have o1 : ¬ d_opn c = 1 := fun z => y1 (e1'.mpr z)
                have o0 : d_opn c = 0 := by
                  rcases ook with r | r | r | r | r | r | r | r | r | r | r | r | r | r | r
                  · exact r
                  all_goals (rw [r] at q1 o1; first | exact absurd rfl o1 | exact absurd q1 (by decide))
                rw [if_neg y1]
                exact key 0 (Or.inl rfl) (by unfold s_sub; rw [if_neg o1]) ⟨fun _ => o0, fun _ => rfl⟩ ⟨fun z => absurd z (by decide), fun z => absurd z o1⟩
            · rw [if_neg g5, if_pos (show ¬ d_nar c = 0 ∨ 1 < d_opn c from Or.inr (by
                have q1 : ¬ d_opn c ≤ 1 := fun z => g5 (le.mpr z)
                rw [Int32.lt_iff_toInt_lt]; rw [Int32.le_iff_toInt_le] at q1; omega))]
              exact ⟨N, 11, rfl, gN, b6', fun z => absurd z nun, fun _ => rfl⟩
          · rw [if_neg gn, if_pos (show ¬ d_nar c = 0 ∨ 1 < d_opn c from Or.inl gn)]
            exact ⟨N, 11, rfl, gN, b6', fun z => absurd z nun, fun _ => rfl⟩
        unfold f_M_arithmetic_b197 f_M_arithmetic_b220
        rw [pi_isNumber hN b2', b2_some, ekx]
        by_cases k1 : cK (s_by c (rv M 0)) = 1
        · rw [if_pos k1, if_neg (show ¬ (1 : Int32) = 0 by decide), pi_isNumber hN ot, b2_some, ektN, if_pos (show (0 : Int32) = 0 from rfl)]
          by_cases k2 : cK (rv M 0 t) = 1
          · rw [if_pos k2, if_neg (show ¬ (1 : Int32) = 0 by decide), hy5, t_opn1 n hn r6, eo, bd_some, enar]
            unfold f_M_arithmetic_b241 s_arith
            rw [e2, if_neg (show ¬ (d_opn c = 12 ∧ d_nar c = 0) from fun z => g12 z.1), if_pos (show cK (s_by c (rv M 0)) = 1 ∧ (cK (rv M 0 t) = 1 ∨ d_opn c = 12) from ⟨k1, Or.inl k2⟩)]
            obtain ⟨P, d1, d2, d3⟩ := pm_op hN (op := d_opn c) (nar := d_nar c) ot b2' ok_U (by omega) ook
            have hP : ps_M P := rq_ps d3 hN
            have kP : kv P := kv_eq b6' (fun q => by rw [d3.1])
            have hQ : ps_M (rt (ii P t 1 0 0 0 0) t (fn_ex 0)) := ps_t (ps_ii hP)
            have gP : rG (tS t) mT M P := rG_trans gN (rG_f (rf_q (rq_mono d3 (fun i hi => Or.inr (hi.elim (fun z => by rcases z with q | q | q <;> omega) (fun z => by omega))))))
            rw [d1, bd_some, pi_toNumber hP ot, bd_some, pm_copy hQ ok_U ot, bd_some, rg_L (by omega), rg_ii, d2, rt_two]
            have gF : rG (tS t) mT M (rt (ii P t 1 0 0 0 0) t (fn_op (d_opn c) (d_nar c) (rg N t) (rg N x))) := rG_trans gP (rG_f (rf_trans (rf_ii (Or.inl rfl)) (rf_rt (Or.inl rfl))))
            have ex : rg N x = cX (s_by c (rv M 0)) := by rw [← b4']; exact (it_x (Or.inl (by rw [b4']; exact k1))).symm
            have et : rg N t = cX (rv M 0 t) := by rw [← tN]; exact (it_x (Or.inl (by rw [tN]; exact k2))).symm
            refine ⟨_, 0, rfl, gF, kv_rt (kv_ii (n := 1) kP (by decide)), fun z => absurd z nun, fun _ => ⟨rfl, ?_, ?_⟩⟩
            · intro i hi
              rw [fin_r ht1 gF i hi, it_both, ex, et]
              rfl
            · rw [rt_I]
              unfold ii
              rw [pI_I, if_neg (fun z => absurd z.1 (by decide)), pI_I, if_neg (fun z => absurd z.1 (by decide)), pI_I, if_neg (fun z => absurd z.1 (by decide)), pI_I, if_neg (fun z => absurd z.1 (by decide)), pI_I, if_neg (fun z => absurd z.1 (by decide)), d3.1]
              exact e59
          · rw [if_neg k2, if_pos rfl]
            exact b266 (fun z => k2 z.2)
        · rw [if_neg k1, if_pos rfl]
          exact b266 (fun z => k1 z.1)
      · have o3 : d_opn c = 11 ∨ d_opn c = 14 ∨ d_opn c = 13 := by
          by_cases z1 : d_opn c = 11
          · exact Or.inl z1
          by_cases z2 : d_opn c = 14
          · exact Or.inr (Or.inl z2)
          by_cases z3 : d_opn c = 13
          · exact Or.inr (Or.inr z3)
          exact absurd (by rw [ri, if_neg z1, if_neg z2, if_neg z3]) r6
        have rf0 : d_rf c = 0 := by
          rcases o3 with z | z | z
          · exact a5 z
          · exact (a4 z).1
          · exact (a3 z).1
        have nun : ¬ s_unr c (rv M 0) := by
          rintro (z | z)
          · rw [e2] at z; exact t0 z.2
          · exact z.1 rf0
        have eby : s_by c (rv M 0) = s_num (fn_ex (d_fn c)) := by unfold s_by; rw [if_pos rf0]
        have big : 1 < d_opn c := by rcases o3 with z | z | z <;> rw [z] <;> decide
        unfold s_arith
        rw [e2, hy4, if_neg r6, pi_isNumber h ot, b2_some, ekt, if_neg (show ¬ (d_opn c = 12 ∧ d_nar c = 0) from fun z => g12 z.1), eby]
        by_cases k1 : cK (rv M 0 t) = 1
        · rw [if_pos k1, if_neg (by decide), if_pos (show cK (s_num (fn_ex (d_fn c))) = 1 ∧ (cK (rv M 0 t) = 1 ∨ d_opn c = 12) from ⟨rfl, Or.inl k1⟩), r_field, bd_some, pi_toNumber h ok_F, bd_some]
          obtain ⟨N, hNd⟩ : ∃ N, N = rt (ii M 30078 1 0 0 0 0) 30078 (fn_ex (d_field c / 8).toInt64) := ⟨_, rfl⟩
          rw [← hNd]
          have fN : rf (fun i => i = 30078) mT M N := by rw [hNd]; exact rf_trans (rf_ii rfl) (rf_rt rfl)
          have hN : ps_M N := rf_ps fN h
          have kN : kv N := by rw [hNd]; exact kv_rt (kv_ii (n := 1) hk (by decide))
          have gN : rG (tS t) mT M N := rG_f (rf_mono fN (fun i z => Or.inr (by omega)) (fun i z => z))
          have tN : it N 0 t = rv M 0 t := by rw [tR]; exact rf_it fN (by omega)
          have e59 : mI N 1 0 59 = mI M 1 0 59 := fN.2.2.2.1 1 0 59 (fun z => by rcases z.1 with q | q <;> exact absurd q.1 (by decide)) (fun z => absurd z.1 (by decide))
          have rF : rg N 30078 = fn_ex (d_field c / 8).toInt64 := by rw [hNd]; exact rg_t
          have rT : rg N t = cX (rv M 0 t) := by rw [← tN]; exact (it_x (Or.inl (by rw [tN]; exact k1))).symm
          have rvN : ∀ i, i < 75 → rv N 0 i = rv M 0 i := by
            intro i hi
            rw [fin_r ht1 gN i hi, tN]
            unfold up
            by_cases e : i = t
            · rw [if_pos e, e]
            · rw [if_neg e]
          have fin : ∀ (op nar : Int32), op_ok op → fn_op op nar (cX (rv M 0 t)) (fn_ex (d_field c / 8).toInt64) = fn_op (d_opn c) (d_nar c) (cX (rv M 0 t)) (fn_ex (d_fn c)) → ∃ M1 r, bd (f_M_operate N 0 (nI t) op (nI t) 30078 nar) (fun M21 => some (M21, (0 : Int32))) = some (M1, r) ∧ rG (tS t) mT M M1 ∧ kv M1 ∧ (s_unr c (rv M 0) → r = 10) ∧ (¬ s_unr c (rv M 0) → rk M1 r (.ok (up (rv M 0) t (s_num (fn_op (d_opn c) (d_nar c) (cX (rv M 0 t)) (cX (s_num (fn_ex (d_fn c)))))), mI M 1 0 59))) := by
            intro op nar hop2 hv
            obtain ⟨P, d1, d2, d3, d4, d5⟩ := rop hN kN (op := op) (nar := nar) ht1 (Or.inr rfl) ok_F hop2 (by rw [tN]; exact k1)
            rw [rT, rF, hv] at d2
            rw [d1, bd_some]
            refine ⟨P, 0, rfl, rG_trans gN d3, d4, fun z => absurd z nun, fun _ => ⟨rfl, ?_, d5.trans e59⟩⟩
            intro i hi
            rw [fin_r ht1 d3 i hi, d2]
            show up (rv N 0) t _ i = up (rv M 0) t _ i
            unfold up
            by_cases e : i = t
            · rw [if_pos e, if_pos e]
            · rw [if_neg e, if_neg e, rvN i hi]
          unfold f_M_arithmetic_b130
          rw [ri]
          rcases o3 with z | z | z
          · rw [if_pos z, if_pos rfl, if_pos rfl]
            have enar : nv = d_nar c := by
              have q := t_nar n hn (Or.inr ⟨k6, by rw [eo, z]; decide, by rw [eo, z]; decide⟩)
              rw [hnv, en] at q
              exact Option.some.inj q
            have n01 := (t_01 n hn).1
            rw [en, ← enar] at n01
            by_cases w0 : nv = 0
            · rw [if_pos w0]
              exact fin 11 0 (by unfold op_ok; decide) (by rw [z, ← enar, w0]; exact fn_op11)
            · rw [if_neg w0]
              have w1 : nv = 1 := n01.elim (fun q => absurd q w0) id
              exact fin 11 1 (by unfold op_ok; decide) (by rw [z, ← enar, w1]; exact fn_op11)
          · rw [if_neg (show ¬ d_opn c = 11 by rw [z]; decide), if_pos z, if_neg (show ¬ (8 : Int32) = 7 by decide), if_pos rfl, if_neg (show ¬ (8 : Int32) = 7 by decide)]
            refine fin 14 0 (by unfold op_ok; decide) ?_
            unfold d_fn
            rw [z, (a4 z).2, if_pos (Or.inl rfl)]
          · rw [if_neg (show ¬ d_opn c = 11 by rw [z]; decide), if_neg (show ¬ d_opn c = 14 by rw [z]; decide), if_pos z, if_neg (show ¬ (9 : Int32) = 7 by decide), if_neg (show ¬ (9 : Int32) = 8 by decide), if_neg (show ¬ (9 : Int32) = 7 by decide)]
            refine fin 13 0 (by unfold op_ok; decide) ?_
            unfold d_fn
            rw [z, (a3 z).2, if_pos (Or.inr rfl)]
        · rw [if_neg k1, if_pos rfl, if_neg (show ¬ (cK (s_num (fn_ex (d_fn c))) = 1 ∧ (cK (rv M 0 t) = 1 ∨ d_opn c = 12)) from fun z => z.2.elim k1 g12), if_pos (show ¬ d_nar c = 0 ∨ 1 < d_opn c from Or.inr big)]
          exact ⟨M, 11, rfl, rG_refl, hk, fun z => absurd z nun, fun _ => rfl⟩
    rw [e2] at *
    split
    · split
      · exact absurd ((t_opn2 n hn (by assumption)).mp (by assumption)) (by rw [eo]; exact g12)
      · exact b46 _ _ rfl rfl
    · exact b46 _ _ rfl rfl
end RC
