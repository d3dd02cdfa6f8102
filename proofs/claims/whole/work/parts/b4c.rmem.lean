/-! PURE: the reference's stack: stores. -/
theorem pI_id {M : me_M} {k j f : Nat} : wI M k j f (mI M k j f) = M := me_ext (by
  funext x y z
  show (if x = k ∧ y = j ∧ z = f then mI M k j f else mI M x y z) = mI M x y z
  by_cases h : x = k ∧ y = j ∧ z = f
  · rw [if_pos h, h.1, h.2.1, h.2.2]
  · rw [if_neg h]) rfl rfl rfl rfl
section RO
variable {M M1 M2 : me_M} {c : Int64}
theorem kv_W {f : Nat} {v : Int32} (h : kv M) : kv (wI M 13 10 f v) := kv_eq h (fun q => by rw [pI_I, if_neg (fun z => absurd z.1 (by decide))])
theorem ps_W {k j f : Nat} {v : Int32} (h : ps_M M) : ps_M (wI M k j f v) := ps_M_of rfl rfl h
theorem sto_l {n r : Nat} : ∀ (k j fu : Nat) (N : me_M), ps_M N → j + k = n → k < fu → n ≤ 8 → r % 8 + n ≤ 8 → r < 512 → f_M_storeStack_l77 0 (pS r) (nI n) fu N (nI (r / 8)) (nI j) = some (wI N 13 10 (r / 8) (mI N 13 10 (r / 8) ||| mb (r % 8 + j) k)) := by
  intro k
  induction k with
  | zero =>
    intro j fu N hN e hf hn hb hr
    obtain ⟨fu, rfl⟩ : ∃ f, fu = f + 1 := ⟨fu - 1, by omega⟩
    rw [f_M_storeStack_l77, if_pos ((nI_lei (by omega) (by omega)).mpr (by omega))]
    unfold mb
    rw [Int32.or_zero, pI_id]
  | succ k ih =>
    intro j fu N hN e hf hn hb hr
    obtain ⟨fu, rfl⟩ : ∃ f, fu = f + 1 := ⟨fu - 1, by omega⟩
    rw [f_M_storeStack_l77, if_neg (fun z => by have := (nI_lei (by omega) (by omega)).mp z; omega), rs_58 hN, bd_some, rz_13_10 hN, gd_pos (ix_ok (by omega) (by decide)), nI_tn (by omega), pS_add, (pS_t1 (r + j) (by omega)).2.1, show (r + j) % 8 = r % 8 + j by omega, st_eq, st_eq, nI_s, ih (j + 1) fu _ (ps_W hN) (by omega) (by omega) hn hb hr, pI_same, pI_two]
    have e2 : mb (r % 8 + j) (k + 1) = jishl 1 (nI (r % 8 + j)) ||| mb (r % 8 + (j + 1)) k := rfl
    rw [e2, Int32.or_assoc]
theorem it_W {f i : Nat} {v w : Int32} : it (wI M 13 10 f v) w i = it M w i := by
  unfold it
  rw [rg_I, pI_I, if_neg (fun z => absurd z.1 (by decide)), kB (by decide), kB (by decide), kB (by decide), kB (by decide)]
theorem cn0 {p m i r w : Int32} {x : fn_N} : cn 0 p m i r w x = s_bare w := by
  unfold cn
  rw [if_neg (by decide), if_neg (by decide), if_neg (by decide), if_neg (by decide), if_pos rfl, if_neg (by decide)]
theorem rstore_s (h : ps_M M) (hk : kv M) {x : Int32} {i n r : Nat} (hx : ok x i) (ha : al n r) (hr : r < 512) : ∃ M1, f_M_storeStack M 0 x (pS r) (nI n) = some M1 ∧ rf (fun f => f = 11 + r / 8) (fun f => f = r / 8) M M1 ∧ kv M1 ∧ rv M1 0 (sl (pS r)) = if n = 8 then it M 0 i else s_stb (rv M 0 (sl (pS r))) (mb (r % 8) n) := by
  have hn := ha.1
  have n8 : nI n = 8 ↔ n = 8 := by rcases hn with z | z | z | z <;> subst z <;> decide
  have os : ok (nI (11 + r / 8)) (11 + r / 8) := ok_n (by omega)
  have e0 : rv M 0 (sl (pS r)) = it M (mI M 13 10 (r / 8)) (11 + r / 8) := rv_s hr
  have ek : mI M 14 8 (11 + r / 8) = cK (rv M 0 (sl (pS r))) := by rw [e0]; rfl
  have fu8 : n < fuel := by unfold fuel; rcases hn with z | z | z | z <;> omega
  unfold f_M_storeStack
  rw [r_slot hr, bd_some, n11]
  by_cases g8 : n = 8
  · rw [if_pos (n8.mpr g8), if_pos g8]
    obtain ⟨A, a1, a2, a3, a4⟩ := it_c (kv_b hk) h hx os
    rw [a1, bd_some, rs_58 h, bd_some, rz_13_10 h, gd_pos (ix_ok (by omega) (by decide)), nI_tn (by omega), st_eq]
    refine ⟨_, rfl, rf_trans (rf_mono a3 (fun i z => z) (fun i z => z.elim)) (rf_W rfl), kv_W (kv_f (S := mT) hk a3 a4), ?_⟩
    rw [rv_s hr, pI_same, it_W, a2]
  · rw [if_neg (fun z => g8 (n8.mp z)), if_neg g8, r_iss h hr, b2_some]
    by_cases g0 : cK (rv M 0 (sl (pS r))) = 0
    · have ew : cW (rv M 0 (sl (pS r))) = mI M 13 10 (r / 8) := by
        rw [← ek] at g0
        rw [e0]
        unfold it cn
        exact if_pos g0
      rw [if_pos g0, if_pos rfl, show (0 : Int32) = nI 0 from rfl, sto_l n 0 fuel M h (by omega) fu8 (al_8 ha).2 (al_8 ha).1 hr, Nat.add_zero]
      refine ⟨_, rfl, rf_W rfl, kv_W hk, ?_⟩
      rw [rv_s hr, pI_same, it_W]
      unfold s_stb
      rw [if_pos g0, ew]
      unfold it
      rw [ek, g0, cn0]
    · rw [if_neg g0, if_neg (by decide), rs_58 h, bd_some, pi_isNumber h os, b2_some, ek]
      have go : ∀ v : Int32, (if cK (rv M 0 (sl (pS r))) = 1 then (255 : Int32) else 0) = v → ∃ M1, gd (¬ (nI (r / 8) < 0 ∨ mZ M 13 10 ≤ (nI (r / 8)).toNatClampNeg)) (st (wI M 13 10 (nI (r / 8)).toNatClampNeg v) (fun M18 => bd (f_M_clear M18 0 (nI (11 + r / 8))) (fun M19 => f_M_storeStack_l77 0 (pS r) (nI n) fuel M19 (nI (r / 8)) 0))) = some M1 ∧ rf (fun f => f = 11 + r / 8) (fun f => f = r / 8) M M1 ∧ kv M1 ∧ rv M1 0 (sl (pS r)) = s_stb (rv M 0 (sl (pS r))) (mb (r % 8) n) := by
        intro v hv
        have hC : ps_M (ii (wI M 13 10 (r / 8) v) (11 + r / 8) 0 0 0 0 0) := ps_ii (ps_W h)
        have ew : mI (ii (wI M 13 10 (r / 8) v) (11 + r / 8) 0 0 0 0 0) 13 10 (r / 8) = v := by
          unfold ii
          rw [kB (by decide), kB (by decide), kB (by decide), kB (by decide), kA, pI_same]
        rw [rz_13_10 h, gd_pos (ix_ok (by omega) (by decide)), nI_tn (by omega), st_eq, pi_clear (ps_W h) os, bd_some, show (0 : Int32) = nI 0 from rfl]
        rw [show nI 0 = (0 : Int32) from rfl] at *
        have q := sto_l (n := n) (r := r) n 0 fuel _ hC (by omega) fu8 (al_8 ha).2 (al_8 ha).1 hr
        rw [Nat.add_zero, ew] at q
        have fC : rf (fun f => f = 11 + r / 8) (fun f => f = r / 8) M (ii (wI M 13 10 (r / 8) v) (11 + r / 8) 0 0 0 0 0) := rf_trans (rf_W rfl) (rf_ii rfl)
        have kC : kv (ii (wI M 13 10 (r / 8) v) (11 + r / 8) 0 0 0 0 0) := kv_ii (n := 0) (kv_W hk) (by decide)
        have iC : ∀ w, it (ii (wI M 13 10 (r / 8) v) (11 + r / 8) 0 0 0 0 0) w (11 + r / 8) = s_bare w := by
          intro w
          rw [it_ii, cn0]
        generalize ii (wI M 13 10 (r / 8) v) (11 + r / 8) 0 0 0 0 0 = C at *
        refine ⟨_, q, rf_trans fC (rf_W rfl), kv_W kC, ?_⟩
        rw [rv_s hr, pI_same, it_W, iC]
        unfold s_stb
        rw [if_neg g0]
        by_cases g1 : cK (rv M 0 (sl (pS r))) = 1
        · rw [if_pos g1] at hv ⊢
          rw [← hv]
        · rw [if_neg g1] at hv ⊢
          rw [← hv, Int32.zero_or]
      by_cases g1 : cK (rv M 0 (sl (pS r))) = 1
      · rw [if_pos g1, if_neg (by decide)]
        exact go 255 (if_pos g1)
      · rw [if_neg g1, if_pos rfl]
        exact go 0 (if_neg g1)
/-- a slot is changed, and scratch -/
theorem fin_s {r : Nat} (hr : r < 512) (g : rG (fun f => f = 11 + r / 8 ∨ 30075 ≤ f) (fun f => f = r / 8) M M1) : ∀ i, i < 75 → rv M1 0 i = up (rv M 0) (sl (pS r)) (rv M1 0 (sl (pS r))) i := by
  intro i hi
  unfold up
  by_cases e : i = sl (pS r)
  · rw [if_pos e, e]
  · rw [if_neg e]
    rw [pS_sl hr] at e
    by_cases h : i < 11
    · rw [rv_r h, rv_r h]
      exact rG_it g (fun z => by omega)
    · rw [rv_g (by omega), rv_g (by omega), g.2.2.2.1 13 10 (74 - i) (fun z => by
        rcases z.1 with q | q
        · exact absurd q.1 (by decide)
        · omega) (fun z => by omega) (fun z => absurd z.1 (by decide))]
      exact rG_it g (fun z => by omega)
theorem isp_ok {vb : Int32 → Int32} {p : sC} {pl : Int32} (h : c_ptr p) : s_isp c vb p pl ↔ s_ok vb p pl (d_by c) 1 ∧ (cK p = 2 → d_fam c = 2) ∧ (cK p = 4 → ¬ d_fam c = 5) := by
  unfold s_isp s_ok
  constructor
  · rintro (z | z | z | z)
    · exact ⟨Or.inl ⟨z.1, z.2.2⟩, fun _ => z.2.1, fun q => by rw [z.1] at q; exact absurd q (by decide)⟩
    · exact ⟨Or.inr (Or.inl ⟨z.1, z.2.1, z.2.2.1, Or.inr z.2.2.2⟩), fun q => by rw [z.1] at q; exact absurd q (by decide), fun q => by rw [z.1] at q; exact absurd q (by decide)⟩
    · exact ⟨Or.inr (Or.inr (Or.inl ⟨z.1, z.2.2⟩)), fun q => by rw [z.1] at q; exact absurd q (by decide), fun _ => z.2.1⟩
    · have k7 : cK p = 7 := by
        rcases h with q | q | q | q
        · exact absurd q z.1
        · exact absurd q z.2.1
        · exact absurd q z.2.2.1
        · exact q
      exact ⟨Or.inr (Or.inr (Or.inr ⟨k7, z.2.2.2⟩)), fun q => absurd q z.1, fun q => absurd q z.2.2.1⟩
  · rintro ⟨z | z | z | z, f, g⟩
    · exact Or.inl ⟨z.1, f z.1, z.2⟩
    · exact Or.inr (Or.inl ⟨z.1, z.2.1, z.2.2.1, z.2.2.2.elim (fun q => absurd q (by decide)) id⟩)
    · exact Or.inr (Or.inr (Or.inl ⟨z.1, g z.1, z.2⟩))
    · exact Or.inr (Or.inr (Or.inr ⟨by rw [z.1]; decide, by rw [z.1]; decide, by rw [z.1]; decide, z.2⟩))
end RO
