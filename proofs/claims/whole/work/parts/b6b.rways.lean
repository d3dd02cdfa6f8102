/-! PURE: the reference decides and widens a row. -/
theorem cn8 {p m i r w : Int32} {x : fn_N} : cn 8 p m i r w x = (8, 0, m, i, 0, 0, fn_ex 0) := by
  unfold cn
  simp
section RW
variable {M M1 M2 : me_M} {r : Nat} {id : Int32}
theorem rv_map {g : sC → sC} (h : ∀ x, x < 75 → ∀ w, it M1 w (75 * r + x) = g (it M w (75 * r + x))) (hw : ∀ f, mI M1 13 10 f = mI M 13 10 f) : ∀ j, j < 75 → rv M1 r j = g (rv M r j) := by
  intro j hj
  unfold rv
  rw [h (rho j) (rho_lt hj)]
  by_cases q : j < 11
  · rw [if_pos q, if_pos q]
  · rw [if_neg q, if_neg q, hw]
theorem rf_w {S : Nat → Prop} (g : rf S mT M M1) : ∀ f, mI M1 13 10 f = mI M 13 10 f := fun f => g.2.2.2.1 13 10 f (fun z => by
  rcases z.1 with q | q
  · exact absurd q.1 (by decide)
  · omega) (fun z => z.2.2)
theorem dec_it {N : me_M} {w : Int32} {x : Nat} (h : mI N 14 8 x = 8) : cK (it N w x) = 8 ∧ cI (it N w x) = mI N 13 8 x ∧ cM (it N w x) = mI N 13 7 x := by
  unfold it
  rw [h, cn8]
  exact ⟨rfl, rfl, rfl⟩
theorem room_it {N : me_M} {w : Int32} {x : Nat} (h : mI N 14 8 x = 4) : cK (it N w x) = 4 ∧ cI (it N w x) = mI N 13 8 x ∧ cR (it N w x) = mI N 13 9 x := by
  unfold it
  rw [h, cn4]
  exact ⟨rfl, rfl, rfl⟩
theorem rdec_l (hr : r < 401) {z : Int32} {kk : Int32} (hz : (z = 0 ∧ kk = 7) ∨ (¬ z = 0 ∧ kk = 1)) : ∀ (k y fu : Nat) (N : me_M), ps_M N → rf (iR r) mT M N → kv N → (∀ x, x < 75 → ∀ w, it N w (75 * r + x) = if x < y then s_dec1 id kk (it M w (75 * r + x)) else it M w (75 * r + x)) → y + k = 75 → k < fu → ∃ M1, f_M_decide_l6 0 (nI r) id z fu N (nI (75 * r + y)) = some M1 ∧ rf (iR r) mT M M1 ∧ kv M1 ∧ (∀ x, x < 75 → ∀ w, it M1 w (75 * r + x) = s_dec1 id kk (it M w (75 * r + x))) := by
  intro k
  induction k with
  | zero =>
    intro y fu N hN gN kN i1 e hf
    obtain ⟨fu, rfl⟩ : ∃ f, fu = f + 1 := ⟨fu - 1, by omega⟩
    unfold f_M_decide_l6 f_M_rowOf
    rw [bd_some, show (75 : Int32) * nI r + 75 = nI (75 * r + 75) from row_n (y := 75), if_pos ((nI_lei (by omega) (by omega)).mpr (by omega))]
    exact ⟨N, rfl, gN, kN, fun x hx w => by rw [i1 x hx w, if_pos (by omega)]⟩
  | succ k ih =>
    intro y fu N hN gN kN i1 e hf
    obtain ⟨fu, rfl⟩ : ∃ f, fu = f + 1 := ⟨fu - 1, by omega⟩
    have oy : ok (nI (75 * r + y)) (75 * r + y) := ok_n (by omega)
    have iy : ∀ w, it N w (75 * r + y) = it M w (75 * r + y) := fun w => by rw [i1 y (by omega) w, if_neg (by omega)]
    unfold f_M_decide_l6 f_M_rowOf
    rw [bd_some, show (75 : Int32) * nI r + 75 = nI (75 * r + 75) from row_n (y := 75), if_neg (fun q => by have := (nI_lei (by omega) (by omega)).mp q; omega), rs_47 hN, bd_some, rz_14_8 hN, oy.2.1, gd_pos (of_eq_true (ok_g oy)), nI_s]
    have same : (∀ w, s_dec1 id kk (it M w (75 * r + y)) = it M w (75 * r + y)) → ∃ M1, f_M_decide_l6 0 (nI r) id z fu N (nI (75 * r + y + 1)) = some M1 ∧ rf (iR r) mT M M1 ∧ kv M1 ∧ (∀ x, x < 75 → ∀ w, it M1 w (75 * r + x) = s_dec1 id kk (it M w (75 * r + x))) := by
      intro hs
      refine ih (y + 1) fu N hN gN kN ?_ (by omega) (by omega)
      intro x hx w
      rw [i1 x hx w]
      by_cases g : x = y
      · rw [if_neg (by omega), if_pos (by omega), g, hs w]
      · by_cases g2 : x < y
        · rw [if_pos g2, if_pos (by omega)]
        · rw [if_neg g2, if_neg (by omega)]
    by_cases k8 : mI N 14 8 (75 * r + y) = 8
    · have q := fun w => dec_it (w := w) k8
      rw [if_pos k8, rs_50 hN, bd_some, rz_13_8 hN, gd_pos (of_eq_true (ok_g oy))]
      by_cases ki : mI N 13 8 (75 * r + y) = id
      · rw [if_pos ki, rs_49 hN, bd_some, rz_13_7 hN, gd_pos (of_eq_true (ok_g oy)), st_eq, pi_toNumber hN oy, bd_some]
        have dd : ∀ w, s_dec1 id kk (it M w (75 * r + y)) = cn kk 0 (mI N 13 7 (75 * r + y)) 0 0 0 (fn_ex 0) := by
          intro w
          obtain ⟨q1, q2, q3⟩ := q w
          unfold s_dec1
          rw [← iy w, q1, q2, q3, if_pos ⟨rfl, ki⟩]
        have step : ∀ P : me_M, rf (fun f => f = 75 * r + y) mT N P → kv P → (∀ w, it P w (75 * r + y) = cn kk 0 (mI N 13 7 (75 * r + y)) 0 0 0 (fn_ex 0)) → ∃ M1, f_M_decide_l6 0 (nI r) id z fu P (nI (75 * r + y + 1)) = some M1 ∧ rf (iR r) mT M M1 ∧ kv M1 ∧ (∀ x, x < 75 → ∀ w, it M1 w (75 * r + x) = s_dec1 id kk (it M w (75 * r + x))) := by
          intro P gP kP iP
          refine ih (y + 1) fu P (rf_ps gP hN) (rf_trans gN (rf_mono gP (fun j z => by show 75 * r ≤ j ∧ _; omega) (fun j z => z))) kP ?_ (by omega) (by omega)
          intro x hx w
          by_cases g : x = y
          · rw [g, iP w, if_pos (by omega), dd w]
          · rw [rf_it gP (by omega), i1 x hx w]
            by_cases g2 : x < y
            · rw [if_pos g2, if_pos (by omega)]
            · rw [if_neg g2, if_neg (by omega)]
        obtain ⟨P, hP⟩ : ∃ P, P = rt (ii N (75 * r + y) 1 0 0 0 0) (75 * r + y) (fn_ex 0) := ⟨_, rfl⟩
        have fP : rf (fun f => f = 75 * r + y) mT N P := by rw [hP]; exact rf_trans (rf_ii rfl) (rf_rt rfl)
        have kP : kv P := by rw [hP]; exact kv_rt (kv_ii (n := 1) kN (by decide))
        have rP : rg P (75 * r + y) = fn_ex 0 := by rw [hP]; exact rg_t
        have iP : ∀ w, it P w (75 * r + y) = cn 1 0 0 0 0 w (fn_ex 0) := by intro w; rw [hP, it_both]
        have p6 : mI P 13 6 (75 * r + y) = 0 ∧ mI P 13 8 (75 * r + y) = 0 ∧ mI P 13 9 (75 * r + y) = 0 := by
          rw [hP, rt_I]
          unfold ii
          refine ⟨?_, ?_, ?_⟩
          · rw [kB (by decide), kB (by decide), kB (by decide), pI_same]
          · rw [kB (by decide), pI_same]
          · rw [pI_same]
        rw [← hP]
        rcases hz with hz | hz
        · rw [if_pos hz.1, st_eq, st_eq]
          refine step _ (rf_trans fP (rf_trans (rf_I iA0 rfl) (rf_I iA7 rfl))) ?_ ?_
          · intro x
            rw [pI_I, if_neg (fun z => absurd z.1 (by decide)), pI_I]
            by_cases g : (14 : Nat) = 14 ∧ (8 : Nat) = 8 ∧ x = 75 * r + y
            · rw [if_pos g]; exact ⟨7, by decide, rfl⟩
            · rw [if_neg g]; exact kP x
          · intro w
            obtain ⟨Q, hQ⟩ : ∃ Q, Q = wI P 14 8 (75 * r + y) (vp_nar .byte 7) := ⟨_, rfl⟩
            rw [← hQ]
            have q8 : mI Q 14 8 (75 * r + y) = 7 := by rw [hQ, pI_same]; rfl
            have q6 : mI Q 13 6 (75 * r + y) = 0 := by rw [hQ, kA, p6.1]
            have q9 : mI Q 13 9 (75 * r + y) = 0 := by rw [hQ, kA, p6.2.2]
            have qi : mI Q 13 8 (75 * r + y) = 0 := by rw [hQ, kA, p6.2.1]
            have qr : rg Q (75 * r + y) = fn_ex 0 := by rw [hQ, rg_I]; exact rP
            unfold it
            rw [pI_same, kB (show ¬ 6 = 7 by decide), kB (show ¬ 8 = 7 by decide), kB (show ¬ 9 = 7 by decide), pI_I, if_neg (fun z => absurd z.1 (by decide)), rg_I, q8, q6, q9, qi, qr, hz.2, cn7, cn7]
        · rw [if_neg hz.1]
          refine step P fP kP ?_
          intro w
          rw [iP w, hz.2]
          unfold cn
          simp
      · rw [if_neg ki]
        refine same (fun w => ?_)
        obtain ⟨q1, q2, q3⟩ := q w
        unfold s_dec1
        rw [← iy w, q2, if_neg (fun g => ki g.2)]
    · rw [if_neg k8]
      refine same (fun w => ?_)
      unfold s_dec1
      rw [← iy w, if_neg (fun g => k8 g.1)]
theorem rdec (h : ps_M M) (hk : kv M) (hr : r < 401) {z : Int32} {kk : Int32} (hz : (z = 0 ∧ kk = 7) ∨ (¬ z = 0 ∧ kk = 1)) : ∃ M1, f_M_decide M 0 (nI r) id z = some M1 ∧ rf (iR r) mT M M1 ∧ kv M1 ∧ ∀ j, j < 75 → rv M1 r j = s_dec id kk (rv M r) j := by
  unfold f_M_decide f_M_rowOf
  rw [bd_some, show (75 : Int32) * nI r = nI (75 * r + 0) from by rw [show (75 : Int32) = nI 75 from rfl, mul_nI]; rfl]
  obtain ⟨M1, a1, a2, a3, a4⟩ := rdec_l (M := M) (id := id) hr hz 75 0 fuel M h rf_refl hk (fun x hx w => by rw [if_neg (by omega)]) (by omega) (by unfold fuel; omega)
  exact ⟨M1, a1, a2, a3, rv_map a4 (rf_w a2)⟩
theorem rroom_l (hr : r < 401) {b : Int32} : ∀ (k y fu : Nat) (N : me_M), ps_M N → rf (iR r) mT M N → kv N → (∀ x, x < 75 → ∀ w, it N w (75 * r + x) = if x < y then s_room1 id b (it M w (75 * r + x)) else it M w (75 * r + x)) → y + k = 75 → k < fu → ∃ M1, f_M_widen_l6 0 (nI r) id b fu N (nI (75 * r + y)) = some M1 ∧ rf (iR r) mT M M1 ∧ kv M1 ∧ (∀ x, x < 75 → ∀ w, it M1 w (75 * r + x) = s_room1 id b (it M w (75 * r + x))) := by
  intro k
  induction k with
  | zero =>
    intro y fu N hN gN kN i1 e hf
    obtain ⟨fu, rfl⟩ : ∃ f, fu = f + 1 := ⟨fu - 1, by omega⟩
    unfold f_M_widen_l6 f_M_rowOf
    rw [bd_some, show (75 : Int32) * nI r + 75 = nI (75 * r + 75) from row_n (y := 75), if_pos ((nI_lei (by omega) (by omega)).mpr (by omega))]
    exact ⟨N, rfl, gN, kN, fun x hx w => by rw [i1 x hx w, if_pos (by omega)]⟩
  | succ k ih =>
    intro y fu N hN gN kN i1 e hf
    obtain ⟨fu, rfl⟩ : ∃ f, fu = f + 1 := ⟨fu - 1, by omega⟩
    have oy : ok (nI (75 * r + y)) (75 * r + y) := ok_n (by omega)
    have iy : ∀ w, it N w (75 * r + y) = it M w (75 * r + y) := fun w => by rw [i1 y (by omega) w, if_neg (by omega)]
    unfold f_M_widen_l6 f_M_rowOf
    rw [bd_some, show (75 : Int32) * nI r + 75 = nI (75 * r + 75) from row_n (y := 75), if_neg (fun q => by have := (nI_lei (by omega) (by omega)).mp q; omega), rs_47 hN, bd_some, rz_14_8 hN, oy.2.1, gd_pos (of_eq_true (ok_g oy)), nI_s]
    have same : (∀ w, s_room1 id b (it M w (75 * r + y)) = it M w (75 * r + y)) → ∃ M1, f_M_widen_l6 0 (nI r) id b fu N (nI (75 * r + y + 1)) = some M1 ∧ rf (iR r) mT M M1 ∧ kv M1 ∧ (∀ x, x < 75 → ∀ w, it M1 w (75 * r + x) = s_room1 id b (it M w (75 * r + x))) := by
      intro hs
      refine ih (y + 1) fu N hN gN kN ?_ (by omega) (by omega)
      intro x hx w
      rw [i1 x hx w]
      by_cases g : x = y
      · rw [if_neg (by omega), if_pos (by omega), g, hs w]
      · by_cases g2 : x < y
        · rw [if_pos g2, if_pos (by omega)]
        · rw [if_neg g2, if_neg (by omega)]
    by_cases k4 : mI N 14 8 (75 * r + y) = 4
    · have q := fun w => room_it (w := w) k4
      rw [if_pos k4, rs_50 hN, bd_some, rz_13_8 hN, gd_pos (of_eq_true (ok_g oy))]
      by_cases ki : mI N 13 8 (75 * r + y) = id
      · rw [if_pos ki, rs_51 hN, bd_some, rz_13_9 hN, gd_pos (of_eq_true (ok_g oy))]
        have dd : ∀ w, s_room1 id b (it M w (75 * r + y)) = (cK (it N w (75 * r + y)), cPl (it N w (75 * r + y)), cM (it N w (75 * r + y)), cI (it N w (75 * r + y)), jimax (mI N 13 9 (75 * r + y)) b, cW (it N w (75 * r + y)), cX (it N w (75 * r + y))) := by
          intro w
          obtain ⟨q1, q2, q3⟩ := q w
          unfold s_room1
          rw [← iy w, q3, if_pos ⟨q1, q2.trans ki⟩]
        by_cases g : b ≤ mI N 13 9 (75 * r + y)
        · rw [if_pos g]
          refine same (fun w => ?_)
          obtain ⟨q1, q2, q3⟩ := q w
          have em : jimax (mI N 13 9 (75 * r + y)) b = mI N 13 9 (75 * r + y) := by
            unfold jimax
            rw [if_neg (Int32.not_lt.mpr g)]
          rw [dd w, em, ← q3, ← iy w]
        · rw [if_neg g, st_eq]
          have gP : rf (fun f => f = 75 * r + y) mT N (wI N 13 9 (75 * r + y) b) := rf_I iA9 rfl
          refine ih (y + 1) fu _ (rf_ps gP hN) (rf_trans gN (rf_mono gP (fun j z => by show 75 * r ≤ j ∧ _; omega) (fun j z => z))) (kv_eq kN (fun q => by rw [pI_I, if_neg (fun z => absurd z.1 (by decide))])) ?_ (by omega) (by omega)
          intro x hx w
          by_cases g3 : x = y
          · have em : jimax (mI N 13 9 (75 * r + y)) b = b := by
              unfold jimax
              rw [if_pos (Int32.not_le.mp g)]
            rw [g3, if_pos (by omega), dd w, em]
            unfold it
            rw [pI_same, kB (by decide), kB (by decide), kB (by decide), pI_I, if_neg (fun z => absurd z.1 (by decide)), rg_I, k4, cn4, cn4]
          · rw [rf_it gP (by omega), i1 x hx w]
            by_cases g2 : x < y
            · rw [if_pos g2, if_pos (by omega)]
            · rw [if_neg g2, if_neg (by omega)]
      · rw [if_neg ki]
        refine same (fun w => ?_)
        obtain ⟨q1, q2, q3⟩ := q w
        unfold s_room1
        rw [← iy w, q2, if_neg (fun g => ki g.2)]
    · rw [if_neg k4]
      refine same (fun w => ?_)
      unfold s_room1
      rw [← iy w, if_neg (fun g => k4 g.1)]
theorem rroom (h : ps_M M) (hk : kv M) (hr : r < 401) {b : Int32} : ∃ M1, f_M_widen M 0 (nI r) id b = some M1 ∧ rf (iR r) mT M M1 ∧ kv M1 ∧ ∀ j, j < 75 → rv M1 r j = s_room id b (rv M r) j := by
  unfold f_M_widen f_M_rowOf
  rw [bd_some, show (75 : Int32) * nI r = nI (75 * r + 0) from by rw [show (75 : Int32) = nI 75 from rfl, mul_nI]; rfl]
  obtain ⟨M1, a1, a2, a3, a4⟩ := rroom_l (M := M) (id := id) (b := b) hr 75 0 fuel M h rf_refl hk (fun x hx w => by rw [if_neg (by omega)]) (by omega) (by unfold fuel; omega)
  exact ⟨M1, a1, a2, a3, rv_map a4 (rf_w a2)⟩
end RW
