/-! PURE: the reference does an instruction that is no relation, whole. -/
def doP (n : Nat) (X : xT) (c : Int64) (R1 : me_M) (r : Int32) (o : sR) : Prop := match o with
  | .error f => r = f ∧ rFin n R1 X
  | .ok q => r = 0 ∧ (d_fam c = 10 → mI R1 1 0 70 = -1) ∧ (d_fam c = 7 → mI R1 1 0 70 = nI (xAt X) + 1 + d_off c) ∧ (d_fam c = 1 → mI R1 1 0 70 = nI (xAt X + 2)) ∧ (¬ d_fam c = 1 → ¬ d_fam c = 7 → ¬ d_fam c = 10 → mI R1 1 0 70 = nI (xAt X + 1)) ∧ rX2 n R1 (x_mv (if d_fam c = 6 then x_fac X (f_rck (xFa X) (xAt X) (q.1 (d_ti c))) else X) q.1 (xAt X) q.2)
section RO
variable {p : Nat → Int64} {n nm B : Nat} {sec mk : Nat → Prop} {kb vb : Int32 → Int32} {X : xT} {c : Int64} {R R1 M M1 N : me_M}
theorem rX2_now {Y : xT} {σ τ : sT} {a : Nat} {d : Int32} (h : rX2 n R (x_mv Y σ a d)) (e : e75 σ τ) : rX2 n R (x_mv Y τ a d) := ⟨⟨e75_trans h.1.1 e, h.1.2⟩, h.2⟩
theorem doP_e {r : Int32} {o o2 : sR} (ht : d_ti c < 11) (e : eR o o2) (h : doP n X c R1 r o) : doP n X c R1 r o2 := by
  cases o with
  | error f =>
    cases o2 with
    | error g => rw [← show f = g from e]; exact h
    | ok q => exact e.elim
  | ok q =>
    cases o2 with
    | error g => exact e.elim
    | ok q2 =>
      obtain ⟨e1, e2⟩ := e
      obtain ⟨h1, h2, h3, h4, h5, h6⟩ := h
      refine ⟨h1, h2, h3, h4, h5, ?_⟩
      rw [← e1 (d_ti c) (by omega), ← e2]
      exact rX2_now h6 e1
theorem rG_1 {S T : Nat → Prop} (g : rG S T M M1) {f : Nat} (h : ¬ f = 59) : mI M1 1 0 f = mI M 1 0 f := g.2.2.2.1 1 0 f (fun z => by rcases z.1 with q | q <;> exact absurd q.1 (by decide)) (fun z => absurd z.1 (by decide)) (fun z => h z.2.2)
theorem kri : k_ri (d_op c) = if d_fam c = 6 then (if d_opn c = 11 then 7 else if d_opn c = 14 then 8 else if d_opn c = 13 then 9 else 6) else if d_fam c = 7 then 10 else if d_fam c = 8 then 11 else if d_fam c = 9 then 12 else if d_fam c = 10 then 13 else d_fam c := rfl
/-- the instruction's number is looked up -/
theorem rdo_in (hR : ps_M R) {s : Nat} (hs : s < 2000) (hc : mL R 16 0 s = c) : f_M_does0 R 0 (nI s) = (if k_ri (d_op c) = 1 then b2 (f_M_wide (wI R 1 0 70 (nI (s + 1))) 0 (nI s)) (fun M10 r11 => some (M10, r11)) else if k_ri (d_op c) = 2 then b2 (f_M_load (wI R 1 0 70 (nI (s + 1))) 0 c) (fun M13 r14 => some (M13, r14)) else if k_ri (d_op c) = 3 then b2 (f_M_store (wI R 1 0 70 (nI (s + 1))) 0 c) (fun M16 r17 => some (M16, r17)) else if k_ri (d_op c) = 4 then b2 (f_M_store (wI R 1 0 70 (nI (s + 1))) 0 c) (fun M19 r20 => some (M19, r20)) else if k_ri (d_op c) = 5 then b2 (f_M_addTo (wI R 1 0 70 (nI (s + 1))) 0 c) (fun M22 r23 => some (M22, r23)) else if k_ri (d_op c) = 6 then b2 (f_M_compute (wI R 1 0 70 (nI (s + 1))) 0 (nI s)) (fun M25 r26 => some (M25, r26)) else if k_ri (d_op c) = 7 then b2 (f_M_compute (wI R 1 0 70 (nI (s + 1))) 0 (nI s)) (fun M28 r29 => some (M28, r29)) else if k_ri (d_op c) = 8 then b2 (f_M_compute (wI R 1 0 70 (nI (s + 1))) 0 (nI s)) (fun M31 r32 => some (M31, r32)) else if k_ri (d_op c) = 9 then b2 (f_M_compute (wI R 1 0 70 (nI (s + 1))) 0 (nI s)) (fun M34 r35 => some (M34, r35)) else if k_ri (d_op c) = 10 then bd (f_M_offsetOf c) (fun r37 => st (wI (wI R 1 0 70 (nI (s + 1))) 1 0 70 ((nI s + 1) + r37)) (fun M38 => some (M38, (0 : Int32)))) else if k_ri (d_op c) = 11 then b2 (f_M_jump (wI R 1 0 70 (nI (s + 1))) 0 (nI s)) (fun M40 r41 => some (M40, r41)) else if k_ri (d_op c) = 12 then bd (f_M_fieldOf c) (fun r43 => b2 (f_M_call (wI R 1 0 70 (nI (s + 1))) 0 r43) (fun M44 r45 => some (M44, r45))) else if k_ri (d_op c) = 13 then st (wI (wI R 1 0 70 (nI (s + 1))) 1 0 70 (-1)) (fun M47 => b2 (f_M_isNumber M47 0 (0 : Int32)) (fun M48 r49 => if r49 = 0 then some (M48, (18 : Int32)) else some (M48, (0 : Int32)))) else b2 (f_M_compute (wI R 1 0 70 (nI (s + 1))) 0 (nI s)) (fun M51 r52 => some (M51, r52))) := by
  obtain ⟨op, hop, eop⟩ := fam_c c
  unfold f_M_does0
  rw [rs_13 hR, bd_some, rz_16_0 hR, gd_pos (ix_ok (by omega) (by decide)), nI_tn (by omega), st_eq, hc, st_eq, nI_s, r_op, bd_some, eop, (t_in op hop).1, bd_some, ← nI_s]
/-- what a register is found to be -/
theorem rcomp (hQ : rQ p n mk nm kb vb R) (hX : rX2 n R X) (hK : xKn X ≤ 200) (hW : xWn X ≤ 200) (ha : xAt X < n) (hg : s_gd nm (xNow X)) (hc : p (xAt X) = c) (ht : d_ti c < 11) (hf : d_fi c < 11) (f6 : d_fam c = 6) (h70 : mI R 1 0 70 = nI (xAt X + 1)) : ∃ R1 r, f_M_compute R 0 (nI (xAt X)) = some (R1, r) ∧ gy R R1 ∧ kv R1 ∧ (s_unr c (rv R 0) → r = 10 ∧ rFin n R1 X) ∧ (¬ s_unr c (rv R 0) → doP n X c R1 r (s_arith c (rv R 0) (mI R 1 0 59))) := by
  obtain ⟨hR, hk, hst, n2, hp, hm⟩ := hQ
  have wf : s_wf nm (rv R 0) := wf_e (e75_symm hX.1.1) (gd_wf hg)
  obtain ⟨t, ht1, e1, e2⟩ := d_ti_n ht
  obtain ⟨N, r, q1, q2, q3, q4, q5⟩ := rarith hR hk wf ht hf f6
  have gN : rG rX w64 R N := rG_mono q2 (fun i z => by rcases z with z | z; exact Or.inl (by omega); exact Or.inr z) (fun i z => z.elim)
  have hN := rG_ps q2 hR
  have zN := rG_z gN
  unfold f_M_compute
  rw [rs_13 hR, bd_some, rz_16_0 hR, gd_pos (ix_ok (by omega) (by decide)), nI_tn (by omega), hp _ ha, hc, q1, b2_some, gz_16 zN (by decide), hp _ ha, hc, r_to, bd_some]
  have bad : ∀ A : Option (me_M × Int32), 0 < r → (if r ≤ 0 then A else some (N, r)) = some (N, r) := by
    intro A z
    rw [if_neg (fun y => by
      rw [Int32.lt_iff_toInt_lt] at z
      rw [Int32.le_iff_toInt_le] at y
      omega)]
  by_cases u : s_unr c (rv R 0)
  · rw [bad _ (by rw [q4 u]; decide)]
    exact ⟨N, r, rfl, gz_y zN, q3, fun _ => ⟨q4 u, fin_z hX zN⟩, fun z => absurd u z⟩
  · have k5 := q5 u
    have eP1 := arith_eP (c := c) (σ := rv R 0) (d := mI R 1 0 59)
    cases o : s_arith c (rv R 0) (mI R 1 0 59) with
    | error f =>
      rw [o] at k5 eP1
      have er : r = f := k5
      rw [bad _ (by rw [er]; exact eP1)]
      exact ⟨N, r, rfl, gz_y zN, q3, fun z => absurd z u, fun _ => ⟨er, fin_z hX zN⟩⟩
    | ok q =>
      rw [o] at k5
      obtain ⟨r0, rows, ids⟩ := k5
      have xN : rX2 n N (x_mv X q.1 (xAt X) q.2) := rX2_i hX gN hK hW rows ids
      have n70 : mI N 1 0 70 = nI (xAt X + 1) := by rw [rG_1 gN (by decide)]; exact h70
      have et : rv N 0 t = q.1 t := rows t (by omega)
      have ek : mI N 14 8 t = cK (q.1 t) := by rw [← et, rv_r ht1]; rfl
      have ex : cK (q.1 t) = 1 → rg N t = cX (q.1 t) := by
        intro k1
        rw [← et, rv_r ht1]
        unfold it
        rw [ek, k1, cn1]
      -- both ends
      have fin : ∀ y : Int32, (y = 0 ∨ y = 1) → ((¬ y = 0) ↔ (cK (q.1 t) = 1 ∧ (cX (q.1 t)).2.1 = 0 ∧ ((xFa X).2.2.2.1 (xAt X) = 0 ∨ (xFa X).2.2.2.1 (xAt X) = 1 ∧ (xFa X).2.2.2.2 (xAt X) = (cX (q.1 t)).1))) → ∃ R1 r, f_M_compute_b83 0 (nI (xAt X)) N (nI t) y = some (R1, r) ∧ gy R R1 ∧ kv R1 ∧ (s_unr c (rv R 0) → r = 10 ∧ rFin n R1 X) ∧ (¬ s_unr c (rv R 0) → doP n X c R1 r (.ok q)) := by
        intro y hy iff
        rw [rcomp_b83 hN (by omega) ht1]
        obtain ⟨w1, w2⟩ := rck_w (s := xAt X) ha (Y := x_mv X q.1 (xAt X) q.2) xN (v := if y = 0 then 2 else 1) (z := mL N 16 6 t) (x := q.1 t) (by
          by_cases y0 : y = 0
          · rw [if_pos y0]; exact (ic_f (fun z => iff.mpr z y0)).symm
          · rw [if_neg y0]; exact (ic_t (iff.mp y0)).symm) (by
          intro z
          by_cases y0 : y = 0
          · rw [if_pos y0] at z; exact absurd z (by decide)
          · have := ex (iff.mp y0).1
            rw [← this]
            rfl)
        refine ⟨_, _, rfl, gf_trans (gz_y zN) (gw_y w1), gw_kv w1 q3, fun z => absurd z u, fun _ => ⟨rfl, fun z => ?_, fun z => ?_, fun z => ?_, fun _ _ _ => ?_, ?_⟩⟩
        · rw [f6] at z; exact absurd z (by decide)
        · rw [f6] at z; exact absurd z (by decide)
        · rw [f6] at z; exact absurd z (by decide)
        · rw [pI_L, wI_j (by decide)]; exact n70
        · rw [if_pos f6, e2]
          exact w2
      rw [r0, if_pos (by decide), e1, pi_isNumber hN (ok_n (by omega)), b2_some, ek]
      by_cases k1 : cK (q.1 t) = 1
      · rw [if_pos k1, if_neg (by decide), pm_isExact hN (ok_n (by omega)), b2_some, ex k1]
        by_cases k2 : (cX (q.1 t)).2.1 = 0
        · rw [if_pos k2, if_neg (by decide), rs_30 hR, bd_some, rz_13_5 hR, gd_pos (ix_t (by omega) (by decide))]
          have f4 : mI N 13 5 (xAt X) = (xFa X).2.2.2.1 (xAt X) := (xN.2.2.2.2.1 _ ha).2.2.2.1
          have f5 : (xFa X).2.2.2.1 (xAt X) = 1 → mL N 16 3 (xAt X) = (xFa X).2.2.2.2 (xAt X) := (xN.2.2.2.2.1 _ ha).2.2.2.2
          rw [f4]
          by_cases a0 : (xFa X).2.2.2.1 (xAt X) = 0
          · rw [if_pos a0]
            exact fin 1 (Or.inr rfl) ⟨fun _ => ⟨k1, k2, Or.inl a0⟩, fun _ => by decide⟩
          · rw [if_neg a0]
            by_cases a1 : (xFa X).2.2.2.1 (xAt X) = 1
            · rw [if_pos a1, rs_31 hR, bd_some, rz_16_3 hR, gd_pos (ix_t (by omega) (by decide)), rs_52 hR, bd_some, rz_16_6 hR, gd_pos (ix_ok (by omega) (by decide)), nI_tn (by omega), f5 a1]
              have ev : mL N 16 6 t = (cX (q.1 t)).1 := by rw [← ex k1]; rfl
              rw [ev]
              by_cases a2 : (xFa X).2.2.2.2 (xAt X) = (cX (q.1 t)).1
              · rw [if_pos a2]
                exact fin 1 (Or.inr rfl) ⟨fun _ => ⟨k1, k2, Or.inr ⟨a1, a2⟩⟩, fun _ => by decide⟩
              · rw [if_neg a2]
                exact fin 0 (Or.inl rfl) ⟨fun z => absurd rfl z, fun z => by
                  rcases z.2.2 with y | y
                  · exact absurd y a0
                  · exact absurd y.2 a2⟩
            · rw [if_neg a1]
              exact fin 0 (Or.inl rfl) ⟨fun z => absurd rfl z, fun z => by
                rcases z.2.2 with y | y
                · exact absurd y a0
                · exact absurd y.1 a1⟩
        · rw [if_neg k2, if_pos rfl]
          exact fin 0 (Or.inl rfl) ⟨fun z => absurd rfl z, fun z => absurd z.2.1 k2⟩
      · rw [if_neg k1, if_pos rfl]
        exact fin 0 (Or.inl rfl) ⟨fun z => absurd rfl z, fun z => absurd z.1 k1⟩
theorem unr_no (h : d_fam c = 1 ∨ d_fam c = 7 ∨ d_fam c = 9 ∨ d_fam c = 10) {σ : sT} : ¬ s_unr c σ := by
  obtain ⟨op, hop, eop⟩ := fam_c c
  have e : d_fam c = (kd (nI op)).1 := by unfold d_fam; rw [eop]
  have t := t_m1 op hop (by
    rw [← e]
    simp only [List.mem_cons, List.not_mem_nil, or_false]
    exact h)
  have e1 : d_rt c = 0 := by unfold d_rt; rw [eop]; exact t.1
  have e2 : d_rf c = 0 := by unfold d_rf; rw [eop]; exact t.2
  rintro (z | z)
  · exact z.1 e1
  · exact z.1 e2
theorem rdo (hQ : rQ p n mk nm kb vb R) (hX : rX2 n R X) (hF : pF p n sec nm) (hO : x_ok n sec nm B X) (hc : p (xAt X) = c) (f8 : ¬ d_fam c = 8) (hkb : ∀ m, m < nm → 0 ≤ (kb (nI m)).toInt ∧ (kb (nI m)).toInt ≤ 512 ∧ 0 ≤ (vb (nI m)).toInt ∧ (vb (nI m)).toInt ≤ 512) : ∃ R1 r, f_M_does0 R 0 (nI (xAt X)) = some (R1, r) ∧ gy R R1 ∧ kv R1 ∧ (s_unr c (xNow X) → r = 10 ∧ rFin n R1 X) ∧ (¬ s_unr c (xNow X) → doP n X c R1 r (s_do c (p (xAt X + 1)) kb vb (xNow X) (xIds X))) := by
  obtain ⟨ha, hsec, hg, hK, hW, _⟩ := hO
  obtain ⟨k0, k1, k2, k3, k4, k5, k6⟩ := hF.2.2.2 (xAt X) ha hsec
  rw [hc] at k0 k1 k2 k3 k4 k5 k6
  have n2 := hQ.2.2.2.1
  rw [rdo_in hQ.1 (show xAt X < 2000 by omega) ((hQ.2.2.2.2.1 _ ha).trans hc), kri]
  obtain ⟨A, hA⟩ : ∃ A, A = wI R 1 0 70 (nI (xAt X + 1)) := ⟨_, rfl⟩
  rw [← hA]
  have yA' : gy R A := by rw [hA]; exact gw_y gw_70
  have kA' : kv A := by rw [hA]; exact kv_w n1 hQ.2.1
  have qA : rQ p n mk nm kb vb A := rQ_y hQ yA' kA'
  have xA : rX2 n A X := by rw [hA]; exact rX2_70 hX
  have a70 : mI A 1 0 70 = nI (xAt X + 1) := by rw [hA, pI_same]
  have pA := qA.1
  have e0 : e75 (rv A 0) (xNow X) := xA.1.1
  have wf : s_wf nm (rv A 0) := wf_e (e75_symm e0) (gd_wf hg)
  have ids : mI A 1 0 59 = xIds X := xA.2.1
  clear hX
  -- the state as the reference has it
  suffices hs : ∃ R1 r, _ = some (R1, r) ∧ gy R R1 ∧ kv R1 ∧ (s_unr c (rv A 0) → r = 10 ∧ rFin n R1 X) ∧ (¬ s_unr c (rv A 0) → doP n X c R1 r (s_do c (p (xAt X + 1)) kb vb (rv A 0) (mI A 1 0 59))) by
    obtain ⟨R1, r, q1, q2, q3, q4, q5⟩ := hs
    refine ⟨R1, r, q1, q2, q3, fun z => q4 ((unr_e e0 k1 k2).mpr z), fun z => ?_⟩
    have := q5 (fun y => z ((unr_e e0 k1 k2).mp y))
    rw [ids] at this
    exact doP_e k1 (do_e e0 wf k1 k2) this
  -- most instructions
  have fin : ∀ (m : Option (me_M × Int32)) (o : sR), ¬ d_fam c = 1 → ¬ d_fam c = 6 → ¬ d_fam c = 7 → ¬ d_fam c = 10 → s_do c (p (xAt X + 1)) kb vb (rv A 0) (mI A 1 0 59) = o → (∃ M1 r, m = some (M1, r) ∧ rG rX w64 A M1 ∧ kv M1 ∧ (s_unr c (rv A 0) → r = 10) ∧ (¬ s_unr c (rv A 0) → rk M1 r o)) → ∃ R1 r, b2 m (fun a b => some (a, b)) = some (R1, r) ∧ gy R R1 ∧ kv R1 ∧ (s_unr c (rv A 0) → r = 10 ∧ rFin n R1 X) ∧ (¬ s_unr c (rv A 0) → doP n X c R1 r (s_do c (p (xAt X + 1)) kb vb (rv A 0) (mI A 1 0 59))) := by
    rintro m o n1 n6 n7 n10 ho ⟨M1, r, q1, q2, q3, q4, q5⟩
    rw [q1, b2_some]
    have z1 := rG_z q2
    refine ⟨M1, r, rfl, gf_trans yA' (gz_y z1), q3, fun z => ⟨q4 z, fin_z xA z1⟩, fun z => ?_⟩
    rw [ho]
    have k := q5 z
    cases o with
    | error f => exact ⟨k, fin_z xA z1⟩
    | ok q =>
      obtain ⟨r0, rows, di⟩ := k
      refine ⟨r0, fun y => absurd y n10, fun y => absurd y n7, fun y => absurd y n1, fun _ _ _ => ?_, ?_⟩
      · rw [rG_1 q2 (by decide)]; exact a70
      · rw [if_neg n6]
        exact rX2_i xA q2 hK hW rows di
  have do_mem : (d_fam c = 2 ∨ d_fam c = 3 ∨ d_fam c = 4 ∨ d_fam c = 5) → s_do c (p (xAt X + 1)) kb vb (rv A 0) (mI A 1 0 59) = s_mem c vb (rv A 0) (mI A 1 0 59) := by
    intro hm
    unfold s_do
    rw [if_neg (by rcases hm with r | r | r | r <;> rw [r] <;> decide), if_neg (by rcases hm with r | r | r | r <;> rw [r] <;> decide), if_neg (by rcases hm with r | r | r | r <;> rw [r] <;> decide), if_neg (by rcases hm with r | r | r | r <;> rw [r] <;> decide), if_neg (by rcases hm with r | r | r | r <;> rw [r] <;> decide)]
  obtain ⟨op, hop, eop⟩ := fam_c c
  have tf := t_fam op hop
  have e : d_fam c = (kd (nI op)).1 := by unfold d_fam; rw [eop]
  rw [← e] at tf
  simp only [List.mem_cons, List.not_mem_nil, or_false] at tf
  rcases tf with r | r | r | r | r | r | r | r | r | r | r
  · exact absurd r k0
  · -- WIDE
    rw [if_neg (show ¬ d_fam c = 6 by rw [r]; decide), if_neg (show ¬ d_fam c = 7 by rw [r]; decide), if_neg f8, if_neg (show ¬ d_fam c = 9 by rw [r]; decide), if_neg (show ¬ d_fam c = 10 by rw [r]; decide), if_pos r]
    obtain ⟨w1, w2, w3, w4⟩ := k3 r
    obtain ⟨N, q1, q2, q3, q4⟩ := rwide (c := c) pA kA' (k := xAt X) (by omega) ((qA.2.2.2.2.1 _ ha).trans hc) k1 w3
    rw [q1, b2_some]
    rw [qA.2.2.2.2.1 (xAt X + 1) (by omega)] at q4
    refine ⟨_, _, rfl, gf_trans yA' (gf_trans (gz_y (rG_z q2)) (gw_y gw_70)), kv_w n1 q3, fun z => absurd z (unr_no (Or.inl r)), fun _ => ?_⟩
    have ho : s_do c (p (xAt X + 1)) kb vb (rv A 0) (mI A 1 0 59) = s_wide c (p (xAt X + 1)) (rv A 0) (mI A 1 0 59) := by unfold s_do; rw [if_pos r]
    rw [ho]
    obtain ⟨_, rows, di⟩ := q4
    refine ⟨rfl, fun y => ?_, fun y => ?_, fun _ => ?_, fun y => absurd r y, ?_⟩
    · rw [r] at y; exact absurd y (by decide)
    · rw [r] at y; exact absurd y (by decide)
    · rw [pI_same, show (2 : Int32) = nI 2 from rfl, nI_add]
    · rw [if_neg (show ¬ d_fam c = 6 by rw [r]; decide)]
      exact rX2_70 (rX2_i xA q2 hK hW rows di)
  · rw [if_neg (show ¬ d_fam c = 6 by rw [r]; decide), if_neg (show ¬ d_fam c = 7 by rw [r]; decide), if_neg f8, if_neg (show ¬ d_fam c = 9 by rw [r]; decide), if_neg (show ¬ d_fam c = 10 by rw [r]; decide), if_neg (by rw [r]; decide), if_pos r]
    exact fin _ _ (by rw [r]; decide) (by rw [r]; decide) (by rw [r]; decide) (by rw [r]; decide) (do_mem (Or.inl r)) (rload pA kA' qA.2.2.1 wf k1 k2 r)
  · rw [if_neg (show ¬ d_fam c = 6 by rw [r]; decide), if_neg (show ¬ d_fam c = 7 by rw [r]; decide), if_neg f8, if_neg (show ¬ d_fam c = 9 by rw [r]; decide), if_neg (show ¬ d_fam c = 10 by rw [r]; decide), if_neg (by rw [r]; decide), if_neg (by rw [r]; decide), if_pos r]
    exact fin _ _ (by rw [r]; decide) (by rw [r]; decide) (by rw [r]; decide) (by rw [r]; decide) (do_mem (Or.inr (Or.inl r))) (rstore pA kA' qA.2.2.1 wf k1 k2 (Or.inl r))
  · rw [if_neg (show ¬ d_fam c = 6 by rw [r]; decide), if_neg (show ¬ d_fam c = 7 by rw [r]; decide), if_neg f8, if_neg (show ¬ d_fam c = 9 by rw [r]; decide), if_neg (show ¬ d_fam c = 10 by rw [r]; decide), if_neg (by rw [r]; decide), if_neg (by rw [r]; decide), if_neg (by rw [r]; decide), if_pos r]
    exact fin _ _ (by rw [r]; decide) (by rw [r]; decide) (by rw [r]; decide) (by rw [r]; decide) (do_mem (Or.inr (Or.inr (Or.inl r)))) (rstore pA kA' qA.2.2.1 wf k1 k2 (Or.inr r))
  · rw [if_neg (show ¬ d_fam c = 6 by rw [r]; decide), if_neg (show ¬ d_fam c = 7 by rw [r]; decide), if_neg f8, if_neg (show ¬ d_fam c = 9 by rw [r]; decide), if_neg (show ¬ d_fam c = 10 by rw [r]; decide), if_neg (by rw [r]; decide), if_neg (by rw [r]; decide), if_neg (by rw [r]; decide), if_neg (by rw [r]; decide), if_pos r]
    exact fin _ _ (by rw [r]; decide) (by rw [r]; decide) (by rw [r]; decide) (by rw [r]; decide) (do_mem (Or.inr (Or.inr (Or.inr r)))) (raddTo pA kA' qA.2.2.1 wf k1 k2 r)
  · -- arithmetic
    rw [if_pos r]
    have ho : s_do c (p (xAt X + 1)) kb vb (rv A 0) (mI A 1 0 59) = s_arith c (rv A 0) (mI A 1 0 59) := by unfold s_do; rw [if_neg (by rw [r]; decide), if_pos r]
    rw [ho]
    obtain ⟨R1, q, q1, q2, q3, q4, q5⟩ := rcomp qA xA hK hW ha hg hc k1 k2 r a70
    have go : ∃ R1 q, b2 (f_M_compute A 0 (nI (xAt X))) (fun a b => some (a, b)) = some (R1, q) ∧ gy R R1 ∧ kv R1 ∧ (s_unr c (rv A 0) → q = 10 ∧ rFin n R1 X) ∧ (¬ s_unr c (rv A 0) → doP n X c R1 q (s_arith c (rv A 0) (mI A 1 0 59))) := by
      rw [q1, b2_some]
      exact ⟨R1, q, rfl, gf_trans yA' q2, q3, q4, q5⟩
    by_cases o1 : d_opn c = 11
    · simp only [if_pos o1]
      exact go
    · simp only [if_neg o1]
      by_cases o2 : d_opn c = 14
      · simp only [if_pos o2]
        exact go
      · simp only [if_neg o2]
        by_cases o3 : d_opn c = 13
        · simp only [if_pos o3]
          exact go
        · simp only [if_neg o3]
          exact go
  · -- ALWAYS
    rw [if_neg (show ¬ d_fam c = 6 by rw [r]; decide), if_pos r, if_neg (by decide), if_neg (by decide), if_neg (by decide), if_neg (by decide), if_neg (by decide), if_neg (by decide), if_neg (by decide), if_neg (by decide), if_neg (by decide), if_pos rfl, r_off, bd_some, st_eq]
    have ho : s_do c (p (xAt X + 1)) kb vb (rv A 0) (mI A 1 0 59) = .ok (rv A 0, mI A 1 0 59) := by unfold s_do; rw [if_neg (by rw [r]; decide), if_neg (by rw [r]; decide), if_pos r]
    rw [ho]
    refine ⟨_, _, rfl, gf_trans yA' (gw_y gw_70), kv_w n1 kA', fun z => absurd z (unr_no (Or.inr (Or.inl r))), fun _ => ⟨rfl, fun y => ?_, fun _ => pI_same, fun y => ?_, fun _ y => absurd r y, ?_⟩⟩
    · rw [r] at y; exact absurd y (by decide)
    · rw [r] at y; exact absurd y (by decide)
    · rw [if_neg (show ¬ d_fam c = 6 by rw [r]; decide)]
      exact rX2_70 (X := x_mv X (rv A 0) (xAt X) (mI A 1 0 59)) ⟨⟨e75_refl, xA.1.2⟩, rfl, xA.2.2⟩
  · exact absurd r f8
  · -- CALL
    rw [if_neg (show ¬ d_fam c = 6 by rw [r]; decide), if_neg (show ¬ d_fam c = 7 by rw [r]; decide), if_neg f8, if_pos r, if_neg (by decide), if_neg (by decide), if_neg (by decide), if_neg (by decide), if_neg (by decide), if_neg (by decide), if_neg (by decide), if_neg (by decide), if_neg (by decide), if_neg (by decide), if_neg (by decide), if_pos rfl, r_field, bd_some]
    have ho : s_do c (p (xAt X + 1)) kb vb (rv A 0) (mI A 1 0 59) = s_help c kb vb (rv A 0) (mI A 1 0 59) := by unfold s_do; rw [if_neg (by rw [r]; decide), if_neg (by rw [r]; decide), if_neg (by rw [r]; decide), if_pos r]
    obtain ⟨M1, q, q1, q2, q3, q4⟩ := rhelp pA kA' qA.2.2.1 wf hkb (k6 r)
    exact fin _ _ (by rw [r]; decide) (by rw [r]; decide) (by rw [r]; decide) (by rw [r]; decide) ho ⟨M1, q, q1, q2, q3, fun z => absurd z (unr_no (Or.inr (Or.inr (Or.inl r)))), fun _ => q4⟩
  · -- EXIT
    rw [if_neg (show ¬ d_fam c = 6 by rw [r]; decide), if_neg (show ¬ d_fam c = 7 by rw [r]; decide), if_neg f8, if_neg (show ¬ d_fam c = 9 by rw [r]; decide), if_pos r, if_neg (by decide), if_neg (by decide), if_neg (by decide), if_neg (by decide), if_neg (by decide), if_neg (by decide), if_neg (by decide), if_neg (by decide), if_neg (by decide), if_neg (by decide), if_neg (by decide), if_neg (by decide), if_pos rfl, st_eq]
    have ho : s_do c (p (xAt X + 1)) kb vb (rv A 0) (mI A 1 0 59) = (if cK (rv A 0 0) = 1 then .ok (rv A 0, mI A 1 0 59) else .error 18) := by unfold s_do; rw [if_neg (by rw [r]; decide), if_neg (by rw [r]; decide), if_neg (by rw [r]; decide), if_neg (by rw [r]; decide), if_pos r]
    have ek : mI (wI A 1 0 70 (-1)) 14 8 0 = cK (rv A 0 0) := by rw [wI_j (by decide), rv_r (by decide)]; rfl
    rw [show f_M_isNumber (wI A 1 0 70 (-1)) 0 (0 : Int32) = some (wI A 1 0 70 (-1), if mI (wI A 1 0 70 (-1)) 14 8 0 = 1 then 1 else 0) from pi_isNumber (ps_W pA) (ok_n (i := 0) (by decide)), b2_some, ek, ho]
    have xE : rX2 n (wI A 1 0 70 (-1)) X := rX2_70 xA
    by_cases g : cK (rv A 0 0) = 1
    · rw [if_pos g, if_neg (by decide), if_pos g]
      refine ⟨_, _, rfl, gf_trans yA' (gw_y gw_70), kv_w n1 kA', fun z => absurd z (unr_no (Or.inr (Or.inr (Or.inr r)))), fun _ => ⟨rfl, fun _ => pI_same, fun y => ?_, fun y => ?_, fun _ _ y => absurd r y, ?_⟩⟩
      · rw [r] at y; exact absurd y (by decide)
      · rw [r] at y; exact absurd y (by decide)
      · rw [if_neg (show ¬ d_fam c = 6 by rw [r]; decide)]
        exact rX2_70 (X := x_mv X (rv A 0) (xAt X) (mI A 1 0 59)) ⟨⟨e75_refl, xA.1.2⟩, rfl, xA.2.2⟩
    · rw [if_neg g, if_pos rfl, if_neg g]
      exact ⟨_, _, rfl, gf_trans yA' (gw_y gw_70), kv_w n1 kA', fun z => absurd z (unr_no (Or.inr (Or.inr (Or.inr r)))), fun _ => ⟨rfl, xE.2.2.1, xE.2.2.2.2.1⟩⟩
end RO
