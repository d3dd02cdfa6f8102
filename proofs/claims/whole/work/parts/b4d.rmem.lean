/-! PURE: the reference's loads and stores are s_mem. -/
theorem t_mo : ∀ n, n < 256 → (kd (nI n)).1 ∈ ([1, 2, 3, 4, 5] : List Int32) → (kd (nI n)).2.1 = -1 ∧ k_ri (nI n) = (kd (nI n)).1 := by decide +kernel
theorem cn5 {p m i r w : Int32} {x : fn_N} : cn 5 p m i r w x = (5, 0, 0, 0, 0, 0, fn_ex 0) := by
  unfold cn
  simp
theorem cn6 {p m i r w : Int32} {x : fn_N} : cn 6 p m i r w x = (6, 0, m, 0, 0, 0, fn_ex 0) := by
  unfold cn
  simp
section RP
variable {M M1 M2 : me_M} {c : Int64} {nm : Nat} {kb vb : Int32 → Int32}
abbrev w64 : Nat → Prop := fun f => f < 64
theorem rX_r {t : Nat} (h : t < 11) : rX t := Or.inl (by omega)
theorem rf_X {i : Nat} (h : i < 75 ∨ 30075 ≤ i) (g : rf (fun f => f = i) mT M M1) : rG rX w64 M M1 := rG_f (rf_mono g (fun j z => by rw [z]; exact h) (fun j z => z.elim))
theorem rf_59 {S T : Nat → Prop} (g : rf S T M M1) : mI M1 1 0 59 = mI M 1 0 59 := g.2.2.2.1 1 0 59 (fun z => by rcases z.1 with q | q <;> exact absurd q.1 (by decide)) (fun z => absurd z.1 (by decide))
theorem pl_of {f : Nat} (hf : f < 11) (h : c_ptr (rv M 0 f)) : mI M 13 6 f = cPl (rv M 0 f) := by
  rw [rv_r hf] at h ⊢
  have h2 : mI M 14 8 f = 2 ∨ mI M 14 8 f = 3 ∨ mI M 14 8 f = 4 ∨ mI M 14 8 f = 7 := h
  unfold it cn
  exact (if_pos h2).symm
/-- a place of the stack that may be used -/
theorem sok_s {p : sC} {pl : Int32} (hb1 : -1000000 ≤ pl.toInt) (hb2 : pl.toInt ≤ 1000000) (h : s_ok vb p pl (d_by c) 1) (k3 : cK p = 3) : ∃ r n, r < 512 ∧ pl = pS r ∧ d_by c = nI n ∧ al n r := by
  have z : ¬ pl < -512 ∧ ¬ 0 < pl + d_by c ∧ jirem pl (d_by c) = 0 := by
    unfold s_ok at h
    rw [k3] at h
    rcases h with z | z | z | z
    · exact absurd z.1 (by decide)
    · exact ⟨z.2.1, z.2.2.1, z.2.2.2.elim (fun q => absurd q (by decide)) id⟩
    · exact absurd z.1 (by decide)
    · exact absurd z.1 (by decide)
  obtain ⟨n, hn, en⟩ : ∃ n, (n = 1 ∨ n = 2 ∨ n = 4 ∨ n = 8) ∧ d_by c = nI n := by
    rcases by_c c with q | q | q | q
    · exact ⟨1, by omega, q⟩
    · exact ⟨2, by omega, q⟩
    · exact ⟨4, by omega, q⟩
    · exact ⟨8, by omega, q⟩
  have ni : (nI n).toInt = n := nI_int (by omega)
  rw [en] at z
  have z1 := z.1
  have z2 := z.2.1
  rw [Int32.lt_iff_toInt_lt] at z1 z2
  rw [add_b hb1 hb2 (by omega) (by omega), ni] at z2
  have d := (rem_i hb1 hb2 (b := nI n) (by omega) (by omega)).mp z.2.2
  rw [ni] at d
  rw [show (-512 : Int32).toInt = -512 from rfl] at z1
  rw [show (0 : Int32).toInt = 0 from rfl] at z2
  obtain ⟨r, hr, er, ir⟩ := pS_of (p := pl) (by omega) (by omega)
  refine ⟨r, n, hr, er, en, hn, ?_⟩
  rcases hn with q | q | q | q <;> subst q <;> omega
theorem b1_n0 {P : Prop} (h : P) : ¬ b1 P = 0 := by rw [b1_t h]; decide
theorem off_pl {σ : sT} (hw : s_wf nm σ) {i : Nat} (hi : i < 75) : -1000000 ≤ (cPl (σ i) + d_off c).toInt ∧ (cPl (σ i) + d_off c).toInt ≤ 1000000 := by
  obtain ⟨a, b⟩ := (hw i hi).1
  obtain ⟨d, e⟩ := off_b c
  rw [add_b (by omega) (by omega) (by omega) (by omega)]
  omega
theorem by_b (c : Int64) : 1 ≤ (d_by c).toInt ∧ (d_by c).toInt ≤ 512 := by
  rcases by_c c with q | q | q | q <;> rw [q] <;> decide
theorem rload (h : ps_M M) (hk : kv M) (hr : rst M nm kb vb) (hw : s_wf nm (rv M 0)) (ht : d_ti c < 11) (hf : d_fi c < 11) (f2 : d_fam c = 2) : ∃ M1 r, f_M_load M 0 c = some (M1, r) ∧ rG rX w64 M M1 ∧ kv M1 ∧ (s_unr c (rv M 0) → r = 10) ∧ (¬ s_unr c (rv M 0) → rk M1 r (s_mem c vb (rv M 0) (mI M 1 0 59))) := by
  obtain ⟨t, ht1, e1, e2⟩ := d_ti_n ht
  obtain ⟨f, hf1, e3, e4⟩ := d_fi_n hf
  obtain ⟨n, hn, hop⟩ := fam_c c
  have fr2 := t_m2 n hn (by rw [← hop]; exact f2)
  have ert : d_rt c = 0 := by unfold d_rt; rw [hop]; exact fr2.1
  have erf : d_rf c = 1 := by unfold d_rf; rw [hop]; exact fr2.2
  have eby : k_by (nI n) = d_by c := by unfold d_by; rw [hop]
  have fR : rv M 0 f = it M 0 f := rv_r hf1
  have ekf : mI M 14 8 f = cK (rv M 0 f) := by rw [fR]; rfl
  have of : ok (nI f) f := ok_n (by omega)
  have ot : ok (nI t) t := ok_n (by omega)
  have uI : s_unr c (rv M 0) ↔ cK (rv M 0 f) = 0 := by
    constructor
    · rintro (z | z)
      · exact absurd ert z.1
      · rw [← e4]; exact z.2
    · intro z
      refine Or.inr ⟨by rw [erf]; decide, by rw [e4]; exact z⟩
  unfold f_M_load
  rw [r_from, bd_some, r_to, bd_some, r_op, bd_some, hop, (t_in n hn).2.1, bd_some, eby, rs_47 h, bd_some, rz_14_8 h, e3, of.2.1, gd_pos (of_eq_true (ok_g of)), ekf, e1]
  by_cases k0 : cK (rv M 0 f) = 0
  · rw [if_pos k0]
    exact ⟨M, 10, rfl, rG_refl, hk, fun _ => rfl, fun z => absurd (uI.mpr k0) z⟩
  have nu' : ¬ s_unr c (rv M 0) := fun z => k0 (uI.mp z)
  rw [if_neg k0, rs_48 h, bd_some, rz_13_6 h, gd_pos (of_eq_true (ok_g of)), r_off, bd_some, st_eq]
  obtain ⟨q, a1, a2, a3, a4⟩ := rmf h hr of (w := 0) (n := d_by c) (pl := mI M 13 6 f + d_off c) (al := 1) (by rw [← fR]; exact fun z => (hw f (by omega)).2 (Or.inr (Or.inl z))) (by
    intro z
    rw [← fR] at z
    rw [pl_of hf1 z]
    exact off_pl hw (by omega)) (by have := by_b c; omega) (by_b c).2 (Or.inl (by_b c).1)
  rw [← fR] at a2 a3 a4
  rw [a1, b2_some]
  unfold s_mem
  rw [f2, if_pos rfl, e4]
  by_cases hp : c_ptr (rv M 0 f)
  · have epl := pl_of hf1 hp
    rw [epl] at a2 a3 ⊢
    rw [if_neg (b1_n0 hp)]
    by_cases hi : s_ok vb (rv M 0 f) (cPl (rv M 0 f) + d_off c) (d_by c) 1
    · have q0 := a2 hp hi
      have hsp : s_isp c vb (rv M 0 f) (cPl (rv M 0 f) + d_off c) := (isp_ok hp).mpr ⟨hi, fun _ => f2, fun _ => by rw [f2]; decide⟩
      rw [q0, if_pos (by decide), if_neg (b1_n0 hsp), if_pos rfl]
      have bnd := off_pl (c := c) hw (show f < 75 by omega)
      generalize cPl (rv M 0 f) + d_off c = pl at hi hsp bnd
      have rdo : ∀ (M1 : me_M) (z : sC), rf (fun g => g = t) mT M M1 → kv M1 → it M1 0 t = z → rG rX w64 M M1 ∧ kv M1 ∧ (s_unr c (rv M 0) → (0 : Int32) = 10) ∧ (¬ s_unr c (rv M 0) → rk M1 0 (.ok (up (rv M 0) t z, mI M 1 0 59))) := by
        intro M1 z g k e
        refine ⟨rf_X (Or.inl (by omega)) g, k, fun z => absurd z nu', fun _ => ⟨rfl, ?_, rf_59 g⟩⟩
        intro i hi
        rw [fin_r ht1 (rG_f (rf_mono g (fun j q => Or.inl q) (fun j q => q))) i hi, e]
      have rd : ∃ M1 r, bd (f_M_toRead M 0 (nI t) (d_by c)) (fun M7 => some (M7, (0 : Int32))) = some (M1, r) ∧ rG rX w64 M M1 ∧ kv M1 ∧ (s_unr c (rv M 0) → r = 10) ∧ (¬ s_unr c (rv M 0) → rk M1 r (.ok (up (rv M 0) t (s_num (fn_rd (d_by c))), mI M 1 0 59))) := by
        rw [pi_toRead h ot (by_c c), bd_some]
        refine ⟨_, 0, rfl, rdo _ _ (rf_trans (rf_ii rfl) (rf_rt rfl)) (kv_rt (kv_ii (n := 1) hk (by decide))) ?_⟩
        rw [it_both]
        rfl
      have sk : ∀ k : Nat, k < 9 → f_M_setKind M 0 (nI t) (nI k) = some (ii M t (nI k) 0 0 0 0) := fun k hk2 => pi_setKind h ot hk2
      have b108 : ¬ (cK (rv M 0 f) = 2 ∧ ¬ 16 ≤ pl) → ∃ M1 r, f_M_load_b108 0 M (nI f) (nI t) (d_by c) pl = some (M1, r) ∧ rG rX w64 M M1 ∧ kv M1 ∧ (s_unr c (rv M 0) → r = 10) ∧ (¬ s_unr c (rv M 0) → rk M1 r (s_load c (cK (rv M 0 f)) pl (rv M 0) (mI M 1 0 59))) := by
        intro nk
        unfold f_M_load_b108 s_load s_rd
        rw [rs_47 h, bd_some, rz_14_8 h, of.2.1, gd_pos (of_eq_true (ok_g of)), ekf, e2, if_neg nk]
        by_cases k3 : cK (rv M 0 f) = 3
        · rw [if_pos k3, if_pos k3]
          obtain ⟨r, m, hr2, er, em, ha⟩ := sok_s bnd.1 bnd.2 hi k3
          obtain ⟨M1, q, b1', b2', b3', b4', b5'⟩ := rload_s h hk ot ha hr2
          have m8 : d_by c = 8 ↔ m = 8 := by
            rw [em]
            rcases ha.1 with z | z | z | z <;> subst z <;> decide
          have ebm : d_bm c pl = mb (r % 8) m := by
            unfold d_bm
            rw [em, er]
            exact al_m ha hr2
          rw [ebm, em, er, b1', b2_some]
          by_cases c1 : ¬ cK (rv M 0 (sl (pS r))) = 0 ∧ m = 8
          · obtain ⟨q0, i0⟩ := b4' c1
            rw [if_pos (show ¬ cK (rv M 0 (sl (pS r))) = 0 ∧ nI m = 8 from ⟨c1.1, by rw [← em]; exact m8.mpr c1.2⟩), q0]
            exact ⟨M1, 0, rfl, rdo M1 _ b2' b3' i0⟩
          · rw [if_neg (show ¬ (¬ cK (rv M 0 (sl (pS r))) = 0 ∧ nI m = 8) from fun z => c1 ⟨z.1, m8.mp (by rw [em]; exact z.2)⟩)]
            by_cases c2 : c_able (rv M 0 (sl (pS r))) (mb (r % 8) m)
            · obtain ⟨q0, i0⟩ := (b5' c1).1 c2
              rw [if_pos c2, q0]
              exact ⟨M1, 0, rfl, rdo M1 _ b2' b3' i0⟩
            · obtain ⟨q0, i0⟩ := (b5' c1).2 c2
              rw [if_neg c2, q0, i0]
              exact ⟨M, 15, rfl, rG_refl, hk, fun z => absurd z nu', fun _ => rfl⟩
        · rw [if_neg k3, if_neg k3]
          exact rd
      have ex : ∀ (k : Nat) (z : sC), k < 9 → cn (nI k) 0 0 0 0 0 (fn_ex 0) = z → ∃ M1 r, bd (f_M_setKind M 0 (nI t) (nI k)) (fun M29 => bd (f_M_setExact M29 0 (nI t) 0) (fun M30 => some (M30, (0 : Int32)))) = some (M1, r) ∧ rG rX w64 M M1 ∧ kv M1 ∧ (s_unr c (rv M 0) → r = 10) ∧ (¬ s_unr c (rv M 0) → rk M1 r (.ok (up (rv M 0) t z, mI M 1 0 59))) := by
        intro k z hk2 hz
        rw [sk k hk2, bd_some, pm_exact (ps_ii h) ot, bd_some]
        refine ⟨_, 0, rfl, rdo _ _ (rf_trans (rf_ii rfl) (rf_rt rfl)) (kv_rt (kv_ii hk hk2)) ?_⟩
        rw [it_both]
        exact hz
      rw [ekf]
      by_cases k2 : cK (rv M 0 f) = 2
      · rw [if_pos k2]
        by_cases g16 : 16 ≤ pl
        · rw [if_pos g16]
          exact b108 (fun z => z.2 g16)
        · rw [if_neg g16]
          unfold s_load s_rd
          rw [e2, if_neg (show ¬ cK (rv M 0 f) = 3 by rw [k2]; decide), if_pos (show cK (rv M 0 f) = 2 ∧ ¬ 16 ≤ pl from ⟨k2, g16⟩)]
          by_cases g0 : pl = 0
          · rw [if_pos g0, if_pos g0]
            exact ex 4 _ (by decide) cn4
          · rw [if_neg g0, if_neg g0]
            exact ex 5 _ (by decide) cn5
      · rw [if_neg k2]
        exact b108 (fun z => k2 z.1)
    · have q0 := a3 hp hi
      have hsp : ¬ s_isp c vb (rv M 0 f) (cPl (rv M 0 f) + d_off c) := fun z => hi ((isp_ok hp).mp z).1
      rw [q0, if_neg (by decide), if_pos (b1_f hsp)]
      exact ⟨M, 14, rfl, rG_refl, hk, fun z => absurd z nu', fun _ => rfl⟩
  · have q0 := a4 hp
    rw [q0, if_neg (by decide), if_pos (b1_f hp)]
    exact ⟨M, 13, rfl, rG_refl, hk, fun z => absurd z nu', fun _ => rfl⟩
/-- the end of a store: the stack -/
theorem rput_s (h : ps_M M) (hk : kv M) {x : Int32} {i : Nat} (hx : ok x i) {p : sC} {pl : Int32} (hb1 : -1000000 ≤ pl.toInt) (hb2 : pl.toInt ≤ 1000000) (hi : s_ok vb p pl (d_by c) 1) (k3 : cK p = 3) : ∃ M1, f_M_storeStack M 0 x pl (d_by c) = some M1 ∧ rG rX w64 M M1 ∧ kv M1 ∧ (∀ i2, i2 < 75 → rv M1 0 i2 = s_store c pl (it M 0 i) (rv M 0) i2) ∧ mI M1 1 0 59 = mI M 1 0 59 := by
  obtain ⟨r, m, hr2, er, em, ha⟩ := sok_s hb1 hb2 hi k3
  obtain ⟨M1, a1, a2, a3, a4⟩ := rstore_s h hk hx ha hr2
  have m8 : d_by c = 8 ↔ m = 8 := by
    rw [em]
    rcases ha.1 with z | z | z | z <;> subst z <;> decide
  have ebm : d_bm c pl = mb (r % 8) m := by
    unfold d_bm
    rw [em, er]
    exact al_m ha hr2
  rw [er, em, a1]
  refine ⟨M1, rfl, rG_f (rf_mono a2 (fun j z => Or.inl (by omega)) (fun j z => by show j < 64; omega)), a3, ?_, rf_59 a2⟩
  intro i2 hi2
  rw [fin_s hr2 (rG_f (rf_mono a2 (fun j z => Or.inl z) (fun j z => z))) i2 hi2, a4]
  unfold s_store
  rw [← er, ebm]
  by_cases g : m = 8
  · rw [if_pos g, if_pos (m8.mpr g)]
  · rw [if_neg g, if_neg (fun z => g (m8.mp z))]
theorem rstore (h : ps_M M) (hk : kv M) (hr : rst M nm kb vb) (hw : s_wf nm (rv M 0)) (ht : d_ti c < 11) (hf : d_fi c < 11) (f34 : d_fam c = 3 ∨ d_fam c = 4) : ∃ M1 r, f_M_store M 0 c = some (M1, r) ∧ rG rX w64 M M1 ∧ kv M1 ∧ (s_unr c (rv M 0) → r = 10) ∧ (¬ s_unr c (rv M 0) → rk M1 r (s_mem c vb (rv M 0) (mI M 1 0 59))) := by
  obtain ⟨t, ht1, e1, e2⟩ := d_ti_n ht
  obtain ⟨f, hf1, e3, e4⟩ := d_fi_n hf
  obtain ⟨n, hn, hop⟩ := fam_c c
  have efam : (kd (nI n)).1 = d_fam c := by unfold d_fam; rw [hop]
  have mo := t_mo n hn (by rw [efam]; rcases f34 with z | z <;> rw [z] <;> decide)
  have eby : k_by (nI n) = d_by c := by unfold d_by; rw [hop]
  have ert : d_rt c = 1 := by
    unfold d_rt
    rw [hop]
    rcases f34 with z | z
    · exact (t_m3 n hn (by rw [efam, z]; decide)).1
    · exact (t_m4 n hn (by rw [efam, z])).1
  have eopn : d_opn c = -1 := by unfold d_opn; rw [hop]; exact mo.1
  have tR : rv M 0 t = it M 0 t := rv_r ht1
  have ekt : mI M 14 8 t = cK (rv M 0 t) := by rw [tR]; rfl
  have ot : ok (nI t) t := ok_n (by omega)
  -- the source is there
  have b78 : ∀ (N : me_M) (x : Nat) (xx : Int32), rf (fun g => g = 30078) mT M N → kv N → ok xx x → (x < 11 ∨ x = 30078) → it N 0 x = s_by c (rv M 0) → (d_rf c = 0 → cK (s_by c (rv M 0)) = 1) → ¬ cK (rv M 0 t) = 0 → (s_unr c (rv M 0) ↔ cK (s_by c (rv M 0)) = 0) → (d_fam c = 4 → cK (s_by c (rv M 0)) = 1) → ∃ M1 r, f_M_store_b78 0 c N (nI t) (d_by c) xx = some (M1, r) ∧ rG rX w64 M M1 ∧ kv M1 ∧ (s_unr c (rv M 0) → r = 10) ∧ (¬ s_unr c (rv M 0) → rk M1 r (s_mem c vb (rv M 0) (mI M 1 0 59))) := by
    intro N x xx gN kN ox hx ex _ k0 uI x4
    have hN : ps_M N := rf_ps gN h
    have tN : it N 0 t = rv M 0 t := by rw [tR]; exact rf_it gN (by omega)
    have ektN : mI N 14 8 t = cK (rv M 0 t) := by rw [← tN]; rfl
    have ekx : mI N 14 8 x = cK (s_by c (rv M 0)) := by rw [← ex]; rfl
    have e59 : mI N 1 0 59 = mI M 1 0 59 := rf_59 gN
    have GN : rG rX w64 M N := rf_X (Or.inr (by decide)) gN
    have rvN : ∀ i, i < 75 → rv N 0 i = rv M 0 i := by
      intro i hi
      rw [fin_r ht1 (rG_f (rf_mono gN (fun j q => Or.inr (by omega)) (fun j q => q))) i hi, tN]
      unfold up
      by_cases e : i = t
      · rw [if_pos e, e]
      · rw [if_neg e]
    have hrN : rst N nm kb vb := by
      refine ⟨hr.1, fun m hm => ?_⟩
      rw [gN.2.2.2.1 13 1 m (fun z => by rcases z.1 with q | q; exact absurd q.1 (by decide); omega) (fun z => by omega), gN.2.2.2.1 13 2 m (fun z => by rcases z.1 with q | q; exact absurd q.1 (by decide); omega) (fun z => by omega)]
      exact hr.2 m hm
    unfold f_M_store_b78
    rw [rs_47 hN, bd_some, rz_14_8 hN, ox.2.1, gd_pos (of_eq_true (ok_g ox)), ekx]
    by_cases kx0 : cK (s_by c (rv M 0)) = 0
    · rw [if_pos kx0]
      exact ⟨N, 10, rfl, GN, kN, fun _ => rfl, fun z => absurd (uI.mpr kx0) z⟩
    have nu' : ¬ s_unr c (rv M 0) := fun z => kx0 (uI.mp z)
    rw [if_neg kx0, rs_48 hN, bd_some, rz_13_6 hN, ot.2.1, gd_pos (of_eq_true (ok_g ot)), r_off, bd_some, st_eq]
    have tN2 : rv N 0 t = rv M 0 t := rvN t (by omega)
    obtain ⟨q, a1, a2, a3, a4⟩ := rmf hN hrN ot (w := 0) (n := d_by c) (pl := mI N 13 6 t + d_off c) (al := 1) (by rw [tN]; exact fun z => (hw t (by omega)).2 (Or.inr (Or.inl z))) (by
      intro z
      rw [tN, ← tN2] at z
      rw [pl_of ht1 z, tN2]
      exact off_pl hw (by omega)) (by have := by_b c; omega) (by_b c).2 (Or.inl (by_b c).1)
    rw [tN] at a2 a3 a4
    rw [a1, b2_some]
    have nf2 : ¬ d_fam c = 2 := by rcases f34 with z | z <;> rw [z] <;> decide
    have nf5 : ¬ d_fam c = 5 := by rcases f34 with z | z <;> rw [z] <;> decide
    unfold s_mem
    rw [if_neg nf2, e2]
    by_cases hp : c_ptr (rv M 0 t)
    · have epl : mI N 13 6 t = cPl (rv M 0 t) := by rw [pl_of ht1 (by rw [tN2]; exact hp), tN2]
      rw [epl] at a2 a3 ⊢
      rw [if_neg (b1_n0 hp)]
      by_cases hi : s_ok vb (rv M 0 t) (cPl (rv M 0 t) + d_off c) (d_by c) 1
      · have q0 := a2 hp hi
        rw [q0, if_neg (by decide), gd_pos (of_eq_true (ok_g ot)), ektN]
        by_cases k2 : cK (rv M 0 t) = 2
        · have hsp : ¬ s_isp c vb (rv M 0 t) (cPl (rv M 0 t) + d_off c) := fun z => nf2 (((isp_ok hp).mp z).2.1 k2)
          rw [if_pos k2, if_neg (by decide), if_pos (b1_f hsp)]
          exact ⟨N, 14, rfl, GN, kN, fun z => absurd z nu', fun _ => rfl⟩
        have hsp : s_isp c vb (rv M 0 t) (cPl (rv M 0 t) + d_off c) := (isp_ok hp).mpr ⟨hi, fun z => absurd z k2, fun _ => nf5⟩
        rw [if_neg k2, if_neg (b1_n0 hsp), pi_isNumber hN ox, b2_some, ekx, if_neg nf2]
        have bnd := off_pl (c := c) hw (show t < 75 by omega)
        generalize cPl (rv M 0 t) + d_off c = pl at hi hsp bnd
        have b176 : ¬ (¬ cK (s_by c (rv M 0)) = 1 ∧ ¬ (d_fam c = 3 ∧ cK (rv M 0 t) = 3 ∧ d_by c = 8)) → ∃ M1 r, f_M_store_b176 0 N (nI t) (d_by c) xx pl = some (M1, r) ∧ rG rX w64 M M1 ∧ kv M1 ∧ (s_unr c (rv M 0) → r = 10) ∧ (¬ s_unr c (rv M 0) → rk M1 r (s_put c (cK (rv M 0 t)) pl (s_by c (rv M 0)) (rv M 0) (mI M 1 0 59))) := by
          intro nn
          unfold f_M_store_b176 s_put
          rw [rs_47 hN, bd_some, rz_14_8 hN, ot.2.1, gd_pos (of_eq_true (ok_g ot)), ektN, if_neg nn, if_neg nf5]
          by_cases k3 : cK (rv M 0 t) = 3
          · rw [if_pos k3, if_pos k3]
            obtain ⟨M1, b1', b2', b3', b4', b5'⟩ := rput_s hN kN ox bnd.1 bnd.2 hi k3
            rw [b1', bd_some]
            refine ⟨M1, 0, rfl, rG_trans GN b2', b3', fun z => absurd z nu', fun _ => ⟨rfl, ?_, b5'.trans e59⟩⟩
            intro i hi2
            rw [b4' i hi2, ex]
            obtain ⟨r, m, hr2, er, em, ha⟩ := sok_s bnd.1 bnd.2 hi k3
            exact s_store_c rvN (by rw [er, pS_sl hr2]; omega) i hi2
          · rw [if_neg k3, if_neg k3]
            exact ⟨N, 0, rfl, GN, kN, fun z => absurd z nu', fun _ => ⟨rfl, rvN, e59⟩⟩
        by_cases kx1 : cK (s_by c (rv M 0)) = 1
        · rw [if_pos kx1, if_neg (by decide)]
          exact b176 (fun z => z.1 kx1)
        · rw [if_neg kx1, if_pos rfl]
          have f3 : d_fam c = 3 := f34.elim id (fun z => absurd (x4 z) kx1)
          have l8 : d_by c < 8 ↔ ¬ d_by c = 8 := by rcases by_c c with z | z | z | z <;> rw [z] <;> decide
          by_cases g8 : d_by c = 8
          · rw [if_neg (fun z => l8.mp z g8), ektN]
            by_cases k3 : cK (rv M 0 t) = 3
            · rw [if_pos k3]
              exact b176 (fun z => z.2 ⟨f3, k3, g8⟩)
            · rw [if_neg k3]
              unfold s_put
              rw [if_pos (show ¬ cK (s_by c (rv M 0)) = 1 ∧ ¬ (d_fam c = 3 ∧ cK (rv M 0 t) = 3 ∧ d_by c = 8) from ⟨kx1, fun z => k3 z.2.1⟩)]
              exact ⟨N, 16, rfl, GN, kN, fun z => absurd z nu', fun _ => rfl⟩
          · rw [if_pos (l8.mpr g8)]
            unfold s_put
            rw [if_pos (show ¬ cK (s_by c (rv M 0)) = 1 ∧ ¬ (d_fam c = 3 ∧ cK (rv M 0 t) = 3 ∧ d_by c = 8) from ⟨kx1, fun z => g8 z.2.2⟩)]
            exact ⟨N, 16, rfl, GN, kN, fun z => absurd z nu', fun _ => rfl⟩
      · have q0 := a3 hp hi
        have hsp : ¬ s_isp c vb (rv M 0 t) (cPl (rv M 0 t) + d_off c) := fun z => hi ((isp_ok hp).mp z).1
        rw [q0, if_pos (by decide), if_neg (by decide), if_pos (b1_f hsp)]
        exact ⟨N, 14, rfl, GN, kN, fun z => absurd z nu', fun _ => rfl⟩
    · have q0 := a4 hp
      rw [q0, if_pos (by decide), if_pos rfl, if_pos (b1_f hp)]
      exact ⟨N, 13, rfl, GN, kN, fun z => absurd z nu', fun _ => rfl⟩
  have go : ∀ s0 : Int32, (d_fam c = 4 ∧ s0 = 1) ∨ (d_fam c = 3 ∧ s0 = 0) → ∃ M1 r, f_M_store_b30 0 c M (nI t) (d_by c) s0 = some (M1, r) ∧ rG rX w64 M M1 ∧ kv M1 ∧ (s_unr c (rv M 0) → r = 10) ∧ (¬ s_unr c (rv M 0) → rk M1 r (s_mem c vb (rv M 0) (mI M 1 0 59))) := by
    intro s0 hs
    unfold f_M_store_b30
    rw [rs_47 h, bd_some, rz_14_8 h, ot.2.1, gd_pos (of_eq_true (ok_g ot)), ekt]
    by_cases k0 : cK (rv M 0 t) = 0
    · rw [if_pos k0]
      have un : s_unr c (rv M 0) := Or.inl ⟨by rw [ert]; decide, by rw [e2]; exact k0⟩
      exact ⟨M, 10, rfl, rG_refl, hk, fun _ => rfl, fun z => absurd un z⟩
    rw [if_neg k0]
    unfold f_M_store_b59
    rcases hs with z | z
    · have erf : d_rf c = 0 := by unfold d_rf; rw [hop]; exact (t_m4 n hn (by rw [efam, z.1])).2
      have eb : s_by c (rv M 0) = s_num (fn_ex (d_field c).toInt64) := by
        unfold s_by d_fn
        rw [if_pos erf, eopn, if_neg (by decide)]
      rw [if_neg (by rw [z.2]; decide), if_neg (by rw [z.2]; decide), r_field, bd_some, pi_toNumber h ok_F, bd_some]
      refine b78 _ 30078 30078 (rf_trans (rf_ii rfl) (rf_rt rfl)) (kv_rt (kv_ii (n := 1) hk (by decide))) ok_F (Or.inr rfl) ?_ (fun _ => by rw [eb]) k0 ?_ (fun _ => by rw [eb])
      · rw [it_both, eb]
        rfl
      · constructor
        · rintro (q | q)
          · rw [e2] at q; exact absurd q.2 k0
          · exact absurd erf q.1
        · intro q
          rw [eb] at q
          exact absurd (show (1 : Int32) = 0 from q) (by decide)
    · have erf : d_rf c = 1 := by unfold d_rf; rw [hop]; exact (t_m3 n hn (by rw [efam, z.1]; decide)).2
      have eb : s_by c (rv M 0) = rv M 0 f := by
        unfold s_by
        rw [if_neg (by rw [erf]; decide), e4]
      rw [if_pos z.2, r_from, bd_some, if_pos z.2, e3]
      refine b78 M f (nI f) rf_refl hk (ok_n (by omega)) (Or.inl hf1) (by rw [eb, rv_r hf1]) (fun q => by rw [erf] at q; exact absurd q (by decide)) k0 ?_ (fun q => by rw [z.1] at q; exact absurd q (by decide))
      rw [eb]
      constructor
      · rintro (q | q)
        · rw [e2] at q; exact absurd q.2 k0
        · rw [e4] at q; exact q.2
      · intro q
        exact Or.inr ⟨by rw [erf]; decide, by rw [e4]; exact q⟩
  unfold f_M_store
  rw [r_to, bd_some, r_op, bd_some, hop, (t_in n hn).2.1, bd_some, bd_some, (t_in n hn).1, bd_some, eby, e1, mo.2, efam]
  by_cases g4 : d_fam c = 4
  · rw [if_pos g4]; exact go 1 (Or.inl ⟨g4, rfl⟩)
  · rw [if_neg g4]; exact go 0 (Or.inr ⟨f34.elim id (fun z => absurd z g4), rfl⟩)
end RP
