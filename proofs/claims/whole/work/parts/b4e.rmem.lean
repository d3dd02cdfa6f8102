/-! PURE: the reference's additions to memory, and wide numbers. -/
theorem s_st_c {c : Int64} {pl : Int32} {x : sC} {σ τ : sT} (h : ∀ i, i < 75 → σ i = τ i) (hs : sl pl < 75) : ∀ i, i < 75 → s_store c pl x σ i = s_store c pl x τ i := s_store_c h hs
section RQ
variable {M M1 M2 : me_M} {c : Int64} {nm : Nat} {kb vb : Int32 → Int32}
theorem raddTo (h : ps_M M) (hk : kv M) (hr : rst M nm kb vb) (hw : s_wf nm (rv M 0)) (ht : d_ti c < 11) (hf : d_fi c < 11) (f5 : d_fam c = 5) : ∃ M1 r, f_M_addTo M 0 c = some (M1, r) ∧ rG rX w64 M M1 ∧ kv M1 ∧ (s_unr c (rv M 0) → r = 10) ∧ (¬ s_unr c (rv M 0) → rk M1 r (s_mem c vb (rv M 0) (mI M 1 0 59))) := by
  obtain ⟨t, ht1, e1, e2⟩ := d_ti_n ht
  obtain ⟨f, hf1, e3, e4⟩ := d_fi_n hf
  obtain ⟨n, hn, hop⟩ := fam_c c
  have fr3 := t_m3 n hn (by rw [← hop]; show d_fam c ∈ _; rw [f5]; decide)
  have ert : d_rt c = 1 := by unfold d_rt; rw [hop]; exact fr3.1
  have erf : d_rf c = 1 := by unfold d_rf; rw [hop]; exact fr3.2
  have eby : k_by (nI n) = d_by c := by unfold d_by; rw [hop]
  have tR : rv M 0 t = it M 0 t := rv_r ht1
  have ekt : mI M 14 8 t = cK (rv M 0 t) := by rw [tR]; rfl
  have fR : rv M 0 f = it M 0 f := rv_r hf1
  have ekf : mI M 14 8 f = cK (rv M 0 f) := by rw [fR]; rfl
  have of : ok (nI f) f := ok_n (by omega)
  have ot : ok (nI t) t := ok_n (by omega)
  have eb : s_by c (rv M 0) = rv M 0 f := by
    unfold s_by
    rw [if_neg (by rw [erf]; decide), e4]
  unfold f_M_addTo
  rw [r_to, bd_some, r_from, bd_some, r_op, bd_some, hop, (t_in n hn).2.1, bd_some, eby, rs_47 h, bd_some, rz_14_8 h, e1, ot.2.1, gd_pos (of_eq_true (ok_g ot)), ekt]
  by_cases kt0 : cK (rv M 0 t) = 0
  · rw [if_pos kt0]
    have un : s_unr c (rv M 0) := Or.inl ⟨by rw [ert]; decide, by rw [e2]; exact kt0⟩
    exact ⟨M, 10, rfl, rG_refl, hk, fun _ => rfl, fun z => absurd un z⟩
  rw [if_neg kt0, e3, of.2.1, gd_pos (of_eq_true (ok_g of)), ekf]
  by_cases kf0 : cK (rv M 0 f) = 0
  · rw [if_pos kf0]
    have un : s_unr c (rv M 0) := Or.inr ⟨by rw [erf]; decide, by rw [e4]; exact kf0⟩
    exact ⟨M, 10, rfl, rG_refl, hk, fun _ => rfl, fun z => absurd un z⟩
  have nu' : ¬ s_unr c (rv M 0) := by
    rintro (z | z)
    · rw [e2] at z; exact kt0 z.2
    · rw [e4] at z; exact kf0 z.2
  rw [if_neg kf0, rs_48 h, bd_some, rz_13_6 h, gd_pos (of_eq_true (ok_g ot)), r_off, bd_some, st_eq]
  obtain ⟨q, a1, a2, a3, a4⟩ := rmf h hr ot (w := 0) (n := d_by c) (pl := mI M 13 6 t + d_off c) (al := 1) (by rw [← tR]; exact fun z => (hw t (by omega)).2 (Or.inr (Or.inl z))) (by
    intro z
    rw [← tR] at z
    rw [pl_of ht1 z]
    exact off_pl hw (by omega)) (by have := by_b c; omega) (by_b c).2 (Or.inl (by_b c).1)
  rw [← tR] at a2 a3 a4
  rw [a1, b2_some]
  have nf2 : ¬ d_fam c = 2 := by rw [f5]; decide
  unfold s_mem
  rw [if_neg nf2, e2]
  by_cases hp : c_ptr (rv M 0 t)
  · have epl := pl_of ht1 hp
    rw [epl] at a2 a3 ⊢
    rw [if_neg (b1_n0 hp)]
    by_cases hi : s_ok vb (rv M 0 t) (cPl (rv M 0 t) + d_off c) (d_by c) 1
    · have q0 := a2 hp hi
      rw [q0, if_pos (show (0 : Int32) ≤ 0 by decide), ekt]
      by_cases k2 : cK (rv M 0 t) = 2
      · have hsp : ¬ s_isp c vb (rv M 0 t) (cPl (rv M 0 t) + d_off c) := fun z => nf2 (((isp_ok hp).mp z).2.1 k2)
        rw [if_pos k2, if_pos (b1_f hsp)]
        exact ⟨M, 14, rfl, rG_refl, hk, fun z => absurd z nu', fun _ => rfl⟩
      rw [if_neg k2]
      by_cases k4 : cK (rv M 0 t) = 4
      · have hsp : ¬ s_isp c vb (rv M 0 t) (cPl (rv M 0 t) + d_off c) := fun z => ((isp_ok hp).mp z).2.2 k4 f5
        rw [if_pos k4, if_pos (b1_f hsp)]
        exact ⟨M, 14, rfl, rG_refl, hk, fun z => absurd z nu', fun _ => rfl⟩
      have hsp : s_isp c vb (rv M 0 t) (cPl (rv M 0 t) + d_off c) := (isp_ok hp).mpr ⟨hi, fun z => absurd z k2, fun z => absurd z k4⟩
      rw [if_neg k4, if_neg (b1_n0 hsp), if_neg nf2, pi_isNumber h of, b2_some, ekf, eb]
      have bnd := off_pl (c := c) hw (show t < 75 by omega)
      generalize cPl (rv M 0 t) + d_off c = pl at hi hsp bnd
      unfold s_put
      by_cases k1 : cK (rv M 0 f) = 1
      · rw [if_pos k1, if_neg (show ¬ (1 : Int32) = 0 by decide), if_neg (show ¬ (¬ cK (rv M 0 f) = 1 ∧ ¬ (d_fam c = 3 ∧ cK (rv M 0 t) = 3 ∧ d_by c = 8)) from fun z => z.1 k1), if_pos f5, ekt]
        by_cases k7 : cK (rv M 0 t) = 7
        · rw [if_pos k7, if_neg (show ¬ cK (rv M 0 t) = 3 by rw [k7]; decide)]
          exact ⟨M, 0, rfl, rG_refl, hk, fun z => absurd z nu', fun _ => ⟨rfl, fun i _ => rfl, rfl⟩⟩
        have k3 : cK (rv M 0 t) = 3 := by
          rcases hp with z | z | z | z
          · exact absurd z k2
          · exact z
          · exact absurd z k4
          · exact absurd z k7
        rw [if_neg k7, if_pos k3]
        obtain ⟨r, m, hr2, er, em, ha⟩ := sok_s bnd.1 bnd.2 hi k3
        obtain ⟨N, q, b1', b2', b3', b4', b5'⟩ := rload_s h hk ok_S ha hr2
        have m8 : d_by c = 8 ↔ m = 8 := by
          rw [em]
          rcases ha.1 with z | z | z | z <;> subst z <;> decide
        have ebm : d_bm c pl = mb (r % 8) m := by
          unfold d_bm
          rw [em, er]
          exact al_m ha hr2
        have hN : ps_M N := rf_ps b2' h
        have GN : rG rX w64 M N := rf_X (Or.inr (by decide)) b2'
        have rvN : ∀ i, i < 75 → rv N 0 i = rv M 0 i := by
          intro i hi3
          rw [fin_r ht1 (rG_f (rf_mono b2' (fun j z => Or.inr (by omega)) (fun j z => z))) i hi3, rf_it b2' (by omega), ← tR]
          unfold up
          by_cases e : i = t
          · rw [if_pos e, e]
          · rw [if_neg e]
        -- behind the load: a number is there
        have fin : it N 0 30079 = s_num (fn_rd (nI m)) ∨ cK (it N 0 30079) = 1 → ∃ M1 r2, b2 (f_M_isNumber N 0 30079) (fun M28 r29 => if r29 = 0 then some (M28, (16 : Int32)) else bd (f_M_toAny M28 0 30079) (fun M31 => bd (f_M_storeStack M31 0 30079 pl (d_by c)) (fun M32 => some (M32, (0 : Int32))))) = some (M1, r2) ∧ rG rX w64 M M1 ∧ kv M1 ∧ (s_unr c (rv M 0) → r2 = 10) ∧ (¬ s_unr c (rv M 0) → rk M1 r2 (.ok (s_store c pl (s_num fn_any) (rv M 0), mI M 1 0 59))) := by
          intro hz
          have kz : mI N 14 8 30079 = 1 := by
            rcases hz with z | z
            · exact congrArg (fun y : sC => y.1) z
            · exact z
          rw [pi_isNumber hN ok_S, b2_some, if_pos kz, if_neg (by decide), pi_toAny hN ok_S, bd_some]
          obtain ⟨A, hA⟩ : ∃ A, A = rt (ii N 30079 1 0 0 0 0) 30079 fn_any := ⟨_, rfl⟩
          have fA : rf (fun g => g = 30079) mT N A := by rw [hA]; exact rf_trans (rf_ii rfl) (rf_rt rfl)
          have kA : kv A := by rw [hA]; exact kv_rt (kv_ii (n := 1) b3' (by decide))
          have iA' : it A 0 30079 = s_num fn_any := by rw [hA, it_both]; rfl
          rw [← hA]
          have hpA : ps_M A := rf_ps fA hN
          obtain ⟨P, c1, c2, c3, c4, c5⟩ := rput_s hpA kA ok_S bnd.1 bnd.2 hi k3
          rw [c1, bd_some]
          refine ⟨P, 0, rfl, rG_trans GN (rG_trans (rf_X (Or.inr (by decide)) fA) c2), c3, fun z => absurd z nu', fun _ => ⟨rfl, ?_, c5.trans ((rf_59 fA).trans (rf_59 b2'))⟩⟩
          intro i hi3
          rw [c4 i hi3, iA']
          refine s_st_c (fun j hj => ?_) (by rw [er, pS_sl hr2]; omega) i hi3
          rw [fin_r ht1 (rG_f (rf_mono fA (fun j z => Or.inr (by omega)) (fun j z => z))) j hj, rf_it fA (by omega), ← rv_r ht1]
          unfold up
          by_cases e : j = t
          · rw [if_pos e, ← e, rvN j hj]
          · rw [if_neg e, rvN j hj]
        unfold s_addTo
        rw [ebm, em, er, b1', b2_some, ← er, ← em]
        rw [← er] at b4' b5'
        by_cases c1 : ¬ cK (rv M 0 (sl pl)) = 0 ∧ m = 8
        · obtain ⟨q0, i0⟩ := b4' c1
          rw [q0, if_pos (show (0 : Int32) ≤ 0 by decide)]
          by_cases ks : cK (rv M 0 (sl pl)) = 1
          · rw [if_neg (show ¬ (¬ cK (rv M 0 (sl pl)) = 0 ∧ ¬ cK (rv M 0 (sl pl)) = 1 ∧ d_by c = 8) from fun z => z.2.1 ks), if_pos (show c_able (rv M 0 (sl pl)) (mb (r % 8) m) from Or.inl ks)]
            exact fin (Or.inr (by rw [i0]; exact ks))
          · rw [if_pos (show ¬ cK (rv M 0 (sl pl)) = 0 ∧ ¬ cK (rv M 0 (sl pl)) = 1 ∧ d_by c = 8 from ⟨c1.1, ks, m8.mpr c1.2⟩), pi_isNumber hN ok_S, b2_some, show mI N 14 8 30079 = cK (it N 0 30079) from rfl, i0, if_neg ks, if_pos rfl]
            exact ⟨N, 16, rfl, GN, b3', fun z => absurd z nu', fun _ => rfl⟩
        · rw [if_neg (show ¬ (¬ cK (rv M 0 (sl pl)) = 0 ∧ ¬ cK (rv M 0 (sl pl)) = 1 ∧ d_by c = 8) from fun z => c1 ⟨z.1, m8.mp z.2.2⟩)]
          by_cases c2 : c_able (rv M 0 (sl pl)) (mb (r % 8) m)
          · obtain ⟨q0, i0⟩ := (b5' c1).1 c2
            rw [q0, if_pos (show (0 : Int32) ≤ 0 by decide), if_pos c2]
            exact fin (Or.inl i0)
          · obtain ⟨q0, i0⟩ := (b5' c1).2 c2
            rw [q0, if_neg (show ¬ (15 : Int32) ≤ 0 by decide), if_neg c2, i0]
            exact ⟨M, 15, rfl, rG_refl, hk, fun z => absurd z nu', fun _ => rfl⟩
      · rw [if_neg k1, if_pos rfl, if_pos (show ¬ cK (rv M 0 f) = 1 ∧ ¬ (d_fam c = 3 ∧ cK (rv M 0 t) = 3 ∧ d_by c = 8) from ⟨k1, fun z => by rw [f5] at z; exact absurd z.1 (by decide)⟩)]
        exact ⟨M, 16, rfl, rG_refl, hk, fun z => absurd z nu', fun _ => rfl⟩
    · have q0 := a3 hp hi
      have hsp : ¬ s_isp c vb (rv M 0 t) (cPl (rv M 0 t) + d_off c) := fun z => hi ((isp_ok hp).mp z).1
      rw [q0, if_neg (show ¬ (14 : Int32) ≤ 0 by decide), if_pos (b1_f hsp)]
      exact ⟨M, 14, rfl, rG_refl, hk, fun z => absurd z nu', fun _ => rfl⟩
  · have q0 := a4 hp
    rw [q0, if_neg (show ¬ (13 : Int32) ≤ 0 by decide), if_pos (b1_f hp)]
    exact ⟨M, 13, rfl, rG_refl, hk, fun z => absurd z nu', fun _ => rfl⟩
theorem wn_eq (w : Int64) : jlshl (d_field w).toInt64 32 = w &&& -4294967296 := by
  apply Int64.toBitVec_inj.mp
  apply BitVec.eq_of_getLsbD_eq
  intro i hi
  show bt (jlshl (d_field w).toInt64 32) i = bt (w &&& -4294967296) i
  have hm : ∀ i, i < 64 → bt (-4294967296) i = decide (32 ≤ i) := by decide
  rw [bt_and, hm i hi, show (32 : Int32) = nI 32 from rfl, bt_shl (by omega)]
  by_cases g : 32 ≤ i
  · have e : bt (d_field w).toInt64 (i - 32) = bt w i := by
      unfold bt d_field
      rw [Int32.toBitVec_toInt64, BitVec.getLsbD_signExtend]
      have l1 : i - 32 < 64 := by omega
      have l2 : i - 32 < 32 := by omega
      simp only [l1, l2, decide_true, Bool.true_and, if_true]
      rw [Int64.toBitVec_toInt32, BitVec.signExtend_eq_setWidth_of_le _ (by decide), BitVec.getLsbD_setWidth]
      simp only [l2, decide_true, Bool.true_and]
      show bt (jlushr w (nI 32)) (i - 32) = _
      rw [bt_ush (by omega), show 32 + (i - 32) = i by omega]
      rfl
    simp [g, e, show ¬ i < 32 by omega, hi]
  · simp [g, show i < 32 by omega]
theorem rwide (h : ps_M M) (hk : kv M) {k : Nat} (hk2 : k + 1 < 2000) (hc : mL M 16 0 k = c) (ht : d_ti c < 11) (h01 : d_from c = 0 ∨ d_from c = 1) : ∃ N, f_M_wide M 0 (nI k) = some (wI N 1 0 70 (nI k + 2), 0) ∧ rG rX w64 M N ∧ kv N ∧ rk N 0 (s_wide c (mL M 16 0 (k + 1)) (rv M 0) (mI M 1 0 59)) := by
  obtain ⟨t, ht1, e1, e2⟩ := d_ti_n ht
  have ot : ok (nI t) t := ok_n (by omega)
  unfold f_M_wide s_wide
  rw [rs_13 h, bd_some, rz_16_0 h, gd_pos (ix_ok (by omega) (by decide)), nI_tn (by omega), st_eq, hc, r_to, bd_some, r_from, bd_some, e1, e2]
  rcases h01 with z | z
  · rw [if_neg (show ¬ d_from c = 1 by rw [z]; decide), if_pos z, r_field, bd_some, nI_s, gd_pos (ix_ok (by omega) (by decide)), nI_tn (by omega), r_field, bd_some, pi_toNumber h ot, bd_some, st_eq]
    have fN : rf (fun i => i = t) mT M (rt (ii M t 1 0 0 0 0) t (fn_ex ((d_field c).toInt64 &&& 4294967295 ||| jlshl (d_field (mL M 16 0 (k + 1))).toInt64 32))) := rf_trans (rf_ii rfl) (rf_rt rfl)
    refine ⟨_, rfl, rf_X (Or.inl (by omega)) fN, kv_rt (kv_ii (n := 1) hk (by decide)), rfl, ?_, rf_59 fN⟩
    intro i hi
    rw [fin_r ht1 (rG_f (rf_mono fN (fun j q => Or.inl q) (fun j q => q))) i hi, it_both]
    unfold d_wn
    rw [wn_eq, Int64.or_comm]
    rfl
  · rw [if_pos z, if_neg (show ¬ d_from c = 0 by rw [z]; decide), show (6 : Int32) = nI 6 from rfl, pi_setKind h ot (by decide), bd_some, pm_exact (ps_ii h) ot, bd_some, rs_49 h, bd_some, r_field, bd_some, rz_13_7 h, ot.2.1, gd_pos (of_eq_true (ok_g ot)), st_eq, st_eq]
    obtain ⟨A, hA⟩ : ∃ A, A = rt (ii M t (nI 6) 0 0 0 0) t (fn_ex 0) := ⟨_, rfl⟩
    have fA : rf (fun g => g = t) mT M A := by rw [hA]; exact rf_trans (rf_ii rfl) (rf_rt rfl)
    have kA' : kv A := by rw [hA]; exact kv_rt (kv_ii (n := 6) hk (by decide))
    have k6 : mI A 14 8 t = 6 := by
      rw [hA, rt_I]
      unfold ii
      rw [pI_I, if_neg (fun z => absurd z.1 (by decide)), pI_I, if_neg (fun z => absurd z.1 (by decide)), pI_I, if_neg (fun z => absurd z.1 (by decide)), pI_I, if_neg (fun z => absurd z.1 (by decide)), pI_same]
      rfl
    rw [← hA]
    have fB : rf (fun g => g = t) mT M (wI A 13 7 t (d_field c)) := rf_trans fA (rf_I iA7 rfl)
    refine ⟨_, rfl, rf_X (Or.inl (by omega)) fB, kv_eq kA' (fun q => by rw [pI_I, if_neg (fun z => absurd z.1 (by decide))]), rfl, ?_, rf_59 fB⟩
    intro i hi
    rw [fin_r ht1 (rG_f (rf_mono fB (fun j q => Or.inl q) (fun j q => q))) i hi]
    have e : it (wI A 13 7 t (d_field c)) 0 t = (6, 0, d_field c, 0, 0, 0, fn_ex 0) := by
      unfold it
      rw [pI_I, if_neg (fun z => absurd z.1 (by decide)), k6, cn6, pI_same]
    rw [e]
    rfl
end RQ
