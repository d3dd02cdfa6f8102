/-! PURE: the class makes the shorter program. -/
section ZC
variable {p : Nat → Int64} {F : xF} {n nm : Nat} {M N N1 : me_M}
theorem lv_s {j r : Nat} (h : n - 1 - j = r) : z_lv p F n (j + 1) = fup (z_lv p F n j) r (z_lv p F n j r ∧ ¬ (z_j p F r ∧ r < z_t p F r ∧ ∀ t, r < t → t < z_t p F r → ¬ z_lv p F n j t)) := by
  show fup _ _ _ = _
  rw [h]
theorem nI_dec {r : Nat} : nI (r + 1) + -1 = nI r := by
  have := nI_prd (W := r)
  rw [Int32.sub_eq_add_neg] at this
  exact this
/-- where the latest that stays is -/
def z_nx (p : Nat → Int64) (F : xF) (n r nx : Nat) : Prop := r ≤ nx ∧ nx ≤ n ∧ (nx = n ∨ z_lv p F n (n - r) nx) ∧ ∀ t, r ≤ t → t < nx → ¬ z_lv p F n (n - r) t
theorem clook1 (hR : mR M 2 1 0 = some 1) (hZ : mZ M 16 1 = 2000) (h3 : mI M 2 1 3 = nI n) (hn : n ≤ 2000) {y : Nat} (hy : y < n) {c : Int64} (hc : mL M 16 1 y = c) : ∃ N, f_Code_look M 1 (nI y) = some N ∧ lk N 1 c ∧ mI N 2 1 3 = mI M 2 1 3 ∧ fr (fun k j => k = 2 ∧ j = 1) M N := by
  obtain ⟨N, q1, q2, q3, q4, q5⟩ := lk_look hR hZ h3 hn hy
  rw [hc] at q2
  exact ⟨N, q1, q2, q3, q5⟩
theorem czl (hn : n ≤ 2000) (hp : pF p n (f_sec p) nm) : ∀ (r fu nx : Nat) (N : me_M), r ≤ n → r < fu → fr zP M N → zBs p n F N → mI N 2 1 3 = nI n → z_nx p F n r nx → (∀ t, t < n → mI N 15 6 t = b1 (z_lv p F n (n - r) t)) → (∀ t, t < n → mL N 16 1 t = z_bc p F t) → ∃ N1, f_Facts_leaveOutJumps_l13 0 1 0 fu N (nI nx) (nI r + -1) = some N1 ∧ fr zP M N1 ∧ zBs p n F N1 ∧ mI N1 2 1 3 = nI n ∧ (∀ t, t < n → mI N1 15 6 t = b1 (z_S p F n t)) ∧ ∀ t, t < n → mL N1 16 1 t = z_bc p F t := by
  intro r
  induction r with
  | zero =>
    intro fu nx N hr hf g hB hz hx hs hl
    obtain ⟨fu, rfl⟩ : ∃ f, fu = f + 1 := ⟨fu - 1, by omega⟩
    rw [f_Facts_leaveOutJumps_l13, if_pos (show nI 0 + -1 < 0 by decide)]
    exact ⟨N, rfl, g, hB, hz, hs, hl⟩
  | succ r ih =>
    intro fu nx N hr hf g hB hz hx hs hl
    obtain ⟨fu, rfl⟩ : ∃ f, fu = f + 1 := ⟨fu - 1, by omega⟩
    have hy : r < n := by omega
    obtain ⟨h1, h2, h4, h5, w1, w2, w3, w4, w5, w6⟩ := hB
    obtain ⟨x1, x2, x3, x4⟩ := hx
    rw [nI_dec, f_Facts_leaveOutJumps_l13, if_neg (nI_ps (by omega))]
    obtain ⟨L, q1, q2, q3, q5⟩ := clook1 w1 w2 hz hn hy (hl r hy)
    have gL : fr zP N L := fr_mono q5 (fun k j z => Or.inl ⟨z.1, Or.inr z.2⟩)
    have oL : ∀ k j, ¬ (k = 2 ∧ j = 1) → mI L k j = mI N k j := q5.2.2.2.1
    have bL : zBs p n F L := zBs_f ⟨h1, h2, h4, h5, w1, w2, w3, w4, w5, w6⟩ gL (by rw [oL 2 0 (by decide)])
    have sL : ∀ t, t < n → mI L 15 6 t = b1 (z_lv p F n (n - (r + 1)) t) := fun t ht => by rw [oL 15 6 (by decide)]; exact hs t ht
    have lL : ∀ t, t < n → mL L 16 1 t = z_bc p F t := fun t ht => by rw [q5.2.2.2.2 16 1 (fun z => absurd z.1 (by decide))]; exact hl t ht
    rw [q1, bd_some, h1.2.2.2.1, bd_some, h1.2.2.2.2.1, gd_pos (ix_ok (by omega) (by decide)), nI_tn (by omega), bL.2.1 r hy, q2.2.2.2.2.2.1]
    have ej : n - r = (n - (r + 1)) + 1 := by omega
    have lv := lv_s (p := p) (F := F) (n := n) (j := n - (r + 1)) (r := r) (by omega)
    rw [← ej] at lv
    obtain ⟨A, hA⟩ : ∃ A, A = z_lv p F n (n - (r + 1)) := ⟨_, rfl⟩
    rw [← hA] at lv sL x3 x4
    -- the place is settled
    have b84 : ∀ (N2 : me_M) (v : Prop), fr zP N N2 → zBs p n F N2 → mI N2 2 1 3 = nI n → (v ↔ (A r ∧ ¬ (z_j p F r ∧ r < z_t p F r ∧ ∀ t, r < t → t < z_t p F r → ¬ A t))) → mI N2 15 6 r = b1 v → (∀ t, t < n → ¬ t = r → mI N2 15 6 t = b1 (A t)) → (∀ t, t < n → mL N2 16 1 t = z_bc p F t) → ∃ N1, f_Facts_leaveOutJumps_b84 (f_Facts_leaveOutJumps_l13 0 1 0 fu) 0 1 0 N2 (nI nx) (nI r) = some N1 ∧ fr zP M N1 ∧ zBs p n F N1 ∧ mI N1 2 1 3 = nI n ∧ (∀ t, t < n → mI N1 15 6 t = b1 (z_S p F n t)) ∧ ∀ t, t < n → mL N1 16 1 t = z_bc p F t := by
      intro N2 v g2 B2 z2 hv a1 a2 a3
      have all : ∀ t, t < n → mI N2 15 6 t = b1 (z_lv p F n (n - r) t) := by
        intro t ht
        rw [lv]
        by_cases e : t = r
        · rw [e, fup_s, a1, b1_c hv]
        · rw [fup_o e]; exact a2 t ht e
      unfold f_Facts_leaveOutJumps_b84
      rw [B2.2.2.2.2.2.2.1, bd_some, B2.2.2.2.2.2.2.2.1, gd_pos (ix_ok (by omega) (by decide)), nI_tn (by omega), a1]
      by_cases vt : v
      · rw [if_neg (b1_n0 vt)]
        refine ih fu r N2 (by omega) (by omega) (fr_trans g g2) B2 z2 ⟨Nat.le_refl _, by omega, Or.inr ?_, fun t a b => by omega⟩ all a3
        rw [lv, fup_s]
        exact hv.mp vt
      · rw [if_pos (b1_f vt)]
        refine ih fu nx N2 (by omega) (by omega) (fr_trans g g2) B2 z2 ⟨by omega, x2, ?_, fun t a b => ?_⟩ all a3
        · rcases x3 with z | z
          · exact Or.inl z
          · refine Or.inr ?_
            rw [lv, fup_o (by omega)]
            exact z
        · rw [lv]
          by_cases e : t = r
          · rw [e, fup_s]
            exact fun z => vt (hv.mpr z)
          · rw [fup_o e]
            exact x4 t (by omega) b
    have tgt : mI L 2 1 8 = d_off (z_bc p F r) := q2.2.2.2.1
    unfold f_Facts_leaveOutJumps_b47 f_Facts_leaveOutJumps_b48 f_Code_target
    have plain : ¬ (z_j p F r ∧ r < z_t p F r ∧ ∀ t, r < t → t < z_t p F r → ¬ A t) → ∃ N1, f_Facts_leaveOutJumps_b84 (f_Facts_leaveOutJumps_l13 0 1 0 fu) 0 1 0 L (nI nx) (nI r) = some N1 ∧ fr zP M N1 ∧ zBs p n F N1 ∧ mI N1 2 1 3 = nI n ∧ (∀ t, t < n → mI N1 15 6 t = b1 (z_S p F n t)) ∧ ∀ t, t < n → mL N1 16 1 t = z_bc p F t := fun h => b84 L (A r) gL bL (q3.trans hz) ⟨fun z => ⟨z, h⟩, fun z => z.1⟩ (sL r hy) (fun t ht _ => sL t ht) lL
    by_cases sy : f_sec p r
    · rw [if_neg (b1_n0 sy), b2_some, if_pos (show (0 : Int32) = 0 from rfl)]
      exact plain (fun z => z.1.1 sy)
    rw [if_pos (b1_f sy)]
    by_cases f7 : d_fam (z_bc p F r) = 7
    · obtain ⟨t1, t2, t3⟩ := z_tn hp hy sy (Or.inl f7)
      rw [if_pos f7, b2_some, tgt, t1, if_neg (show ¬ (1 : Int32) = 0 by decide)]
      by_cases le : z_t p F r ≤ r
      · rw [if_pos ((nI_lei (by omega) (by omega)).mpr le)]
        exact plain (fun z => by have := z.2.1; omega)
      rw [if_neg (fun z => le ((nI_lei (by omega) (by omega)).mp z))]
      by_cases lt : nx < z_t p F r
      · rw [if_pos ((nI_lti (by omega) (by omega)).mpr lt)]
        refine plain (fun z => ?_)
        rcases x3 with e | e
        · omega
        · exact z.2.2 nx (by omega) lt e
      rw [if_neg (fun z => lt ((nI_lti (by omega) (by omega)).mp z)), bL.2.2.2.2.2.2.1, bd_some, bL.2.2.2.2.2.2.2.1, gd_pos (ix_ok (by omega) (by decide)), nI_tn (by omega), st_eq]
      have out : z_j p F r ∧ r < z_t p F r ∧ ∀ t, r < t → t < z_t p F r → ¬ A t := ⟨⟨sy, f7⟩, by omega, fun t a b => x4 t (by omega) (by omega)⟩
      have g6 : fr zP L (wI L 15 6 r (vp_nar .boolean (0 : Int32))) := fr_I (Or.inr (Or.inl ⟨rfl, rfl⟩))
      refine b84 _ False (fr_trans gL g6) (zBs_f bL g6 (wI_j (by decide))) (by rw [wI_j (by decide)]; exact q3.trans hz) ⟨fun z => z.elim, fun z => z.2 out⟩ ?_ (fun t ht e => by rw [pI_place e]; exact sL t ht) lL
      rw [pI_same, b1_f id]
      rfl
    · rw [if_neg f7, b2_some, if_pos (show (0 : Int32) = 0 from rfl)]
      exact plain (fun z => f7 z.1.2)
theorem czn (hn : n ≤ 2000) : ∀ (k y fu : Nat) (N : me_M), y + k = n → k < fu → fr zP M N → zBs p n F N → mI N 2 1 3 = nI n → (∀ t, t < n → mI N 15 6 t = b1 (z_S p F n t)) → (∀ t, t < n → mL N 16 1 t = z_bc p F t) → (∀ t, t < y → mI N 13 2 t = nI (z_np p F n t)) → ∃ N1, f_Facts_numberPlaces_l4 0 (nI n) fu N (nI (z_np p F n y)) (nI y) = some N1 ∧ fr zP M N1 ∧ zBs p n F N1 ∧ mI N1 2 1 3 = nI n ∧ (∀ t, t < n → mI N1 15 6 t = b1 (z_S p F n t)) ∧ (∀ t, t < n → mL N1 16 1 t = z_bc p F t) ∧ ∀ t, t ≤ n → mI N1 13 2 t = nI (z_np p F n t) := by
  intro k
  induction k with
  | zero =>
    intro y fu N e hf g hB hz hs hl hm
    obtain ⟨fu, rfl⟩ : ∃ f, fu = f + 1 := ⟨fu - 1, by omega⟩
    have ey : y = n := by omega
    obtain ⟨w1, w2, w3, w4, w5, w6⟩ := hB.2.2.2.2
    rw [f_Facts_numberPlaces_l4, if_pos (show nI n ≤ nI y from (nI_lei (by omega) (by omega)).mpr (by omega)), w5, bd_some, w6, gd_pos (ix_ok (by omega) (by decide)), nI_tn (by omega), st_eq]
    have g2 : fr zP N (wI N 13 2 n (nI (z_np p F n y))) := fr_I (Or.inr (Or.inr (Or.inl ⟨rfl, rfl⟩)))
    refine ⟨_, rfl, fr_trans g g2, zBs_f hB g2 (wI_j (by decide)), by rw [wI_j (by decide)]; exact hz, fun t ht => by rw [wI_j (by decide)]; exact hs t ht, hl, fun t ht => ?_⟩
    by_cases e1 : t = n
    · rw [e1, pI_same, ey]
    · rw [pI_place e1]; exact hm t (by omega)
  | succ k ih =>
    intro y fu N e hf g hB hz hs hl hm
    obtain ⟨fu, rfl⟩ : ∃ f, fu = f + 1 := ⟨fu - 1, by omega⟩
    have hy : y < n := by omega
    obtain ⟨w1, w2, w3, w4, w5, w6⟩ := hB.2.2.2.2
    rw [f_Facts_numberPlaces_l4, if_neg (show ¬ nI n ≤ nI y from fun z => by have := (nI_lei (by omega) (by omega)).mp z; omega), w5, bd_some, w6, gd_pos (ix_ok (by omega) (by decide)), nI_tn (by omega), st_eq, w3, bd_some, w4, gd_pos (ix_t (by omega) (by decide)), wI_j (by decide), hs y hy, st_eq, st_eq, nI_s, nI_s]
    have g2 : fr zP N (wI N 13 2 y (nI (z_np p F n y))) := fr_I (Or.inr (Or.inr (Or.inl ⟨rfl, rfl⟩)))
    have nx := ih (y + 1) fu (wI N 13 2 y (nI (z_np p F n y))) (by omega) (by omega) (fr_trans g g2) (zBs_f hB g2 (wI_j (by decide))) (by rw [wI_j (by decide)]; exact hz) (fun t ht => by rw [wI_j (by decide)]; exact hs t ht) hl (fun t ht => by
      by_cases e1 : t = y
      · rw [e1, pI_same]
      · rw [pI_place e1]; exact hm t (by omega))
    have enp : z_np p F n (y + 1) = z_np p F n y + ic (z_S p F n y) 1 0 := rfl
    rw [enp] at nx
    by_cases S : z_S p F n y
    · rw [if_neg (b1_n0 S)]
      rw [ic_t S] at nx
      exact nx
    · rw [if_pos (b1_f S), Int32.add_zero]
      rw [ic_f S, Nat.add_zero] at nx
      exact nx
theorem np_lt {s t : Nat} (h : s < t) (hs : z_S p F n s) : z_np p F n s < z_np p F n t := by
  induction t with
  | zero => omega
  | succ t ih =>
    show _ < z_np p F n t + ic (z_S p F n t) 1 0
    by_cases e : s = t
    · rw [← e, ic_t hs]; omega
    · have := ih (by omega)
      omega
theorem czp (hn : n ≤ 2000) (hp : pF p n (f_sec p) nm) : ∀ (k y fu : Nat) (N : me_M), y + k = n → k < fu → fr zP M N → zBs p n F N → mI N 2 1 3 = nI n → (∀ t, t < n → mI N 15 6 t = b1 (z_S p F n t)) → (∀ t, t ≤ n → mI N 13 2 t = nI (z_np p F n t)) → (∀ t, y ≤ t → t < n → mL N 16 1 t = z_bc p F t) → (∀ t, t < y → z_S p F n t → mL N 16 1 (z_np p F n t) = z_wd p F n t) → ∃ N1, f_Facts_pack_l2 0 1 0 fu N (nI y) = some N1 ∧ fr zP M N1 ∧ zBs p n F N1 ∧ mI N1 2 1 3 = nI (z_np p F n n) ∧ ∀ t, t < n → z_S p F n t → mL N1 16 1 (z_np p F n t) = z_wd p F n t := by
  intro k
  induction k with
  | zero =>
    intro y fu N e hf g hB hz hs hm hl hw
    obtain ⟨fu, rfl⟩ : ∃ f, fu = f + 1 := ⟨fu - 1, by omega⟩
    obtain ⟨w1, w2, w3, w4, w5, w6⟩ := hB.2.2.2.2
    rw [f_Facts_pack_l2, hB.1.1, if_pos (show nI n ≤ nI y from (nI_lei (by omega) (by omega)).mpr (by omega)), w5, bd_some, w6, gd_pos (ix_ok (by omega) (by decide)), nI_tn (by omega), hm n (Nat.le_refl _), st_eq]
    have g2 : fr zP N (wI N 2 1 3 (nI (z_np p F n n))) := fr_I (Or.inl ⟨rfl, Or.inr rfl⟩)
    exact ⟨_, rfl, fr_trans g g2, zBs_f hB g2 (wI_j (by decide)), pI_same, fun t ht => hw t (by omega)⟩
  | succ k ih =>
    intro y fu N e hf g hB hz hs hm hl hw
    obtain ⟨fu, rfl⟩ : ∃ f, fu = f + 1 := ⟨fu - 1, by omega⟩
    have hy : y < n := by omega
    obtain ⟨w1, w2, w3, w4, w5, w6⟩ := hB.2.2.2.2
    have h1 := hB.1
    rw [f_Facts_pack_l2, hB.1.1, if_neg (show ¬ nI n ≤ nI y from fun z => by have := (nI_lei (by omega) (by omega)).mp z; omega)]
    obtain ⟨L, q1, q2, q3, q5⟩ := clook1 w1 w2 hz hn hy (hl y (Nat.le_refl _) hy)
    have gL : fr zP N L := fr_mono q5 (fun k j z => Or.inl ⟨z.1, Or.inr z.2⟩)
    have oL : ∀ k j, ¬ (k = 2 ∧ j = 1) → mI L k j = mI N k j := q5.2.2.2.1
    have bL : zBs p n F L := zBs_f hB gL (by rw [oL 2 0 (by decide)])
    have eL : mL L 16 1 = mL N 16 1 := q5.2.2.2.2 16 1 (fun z => absurd z.1 (by decide))
    have sL : ∀ t, t < n → mI L 15 6 t = b1 (z_S p F n t) := fun t ht => by rw [oL 15 6 (by decide)]; exact hs t ht
    have mLn : ∀ t, t ≤ n → mI L 13 2 t = nI (z_np p F n t) := fun t ht => by rw [oL 13 2 (by decide)]; exact hm t ht
    have ly : mL L 16 1 y = z_bc p F y := by rw [eL]; exact hl y (Nat.le_refl _) hy
    unfold f_Code_target f_Code_isJump
    rw [q1, bd_some, w1, bd_some, w2, gd_pos (ix_ok (by omega) (by decide)), nI_tn (by omega), ly, st_eq, b2_some, w3, bd_some, w4, gd_pos (ix_t (by omega) (by decide)), sL y hy]
    have nle := np_le (p := p) (F := F) (n := n) (s := y)
    -- written down
    have b106 : (z_S p F n y → True) → ∀ v : Int64, (z_S p F n y → v = z_wd p F n y) → ∃ N1, f_Facts_pack_b106 (f_Facts_pack_l2 0 1 0 fu) 0 1 0 L (nI y) v = some N1 ∧ fr zP M N1 ∧ zBs p n F N1 ∧ mI N1 2 1 3 = nI (z_np p F n n) ∧ ∀ t, t < n → z_S p F n t → mL N1 16 1 (z_np p F n t) = z_wd p F n t := by
      intro _ v hv
      obtain ⟨v1, v2, v3, v4, v5, v6⟩ := bL.2.2.2.2
      unfold f_Facts_pack_b106
      rw [v3, bd_some, v4, gd_pos (ix_ok (by omega) (by decide)), nI_tn (by omega), sL y hy]
      by_cases S : z_S p F n y
      · rw [if_neg (b1_n0 S), v1, bd_some, v5, bd_some, v6, gd_pos (ix_t (by omega) (by decide)), mLn y (by omega), v2, gd_pos (ix_ok (by omega) (by decide)), nI_tn (by omega), st_eq, nI_s]
        have g2 : fr zP L (wL L 16 1 (z_np p F n y) v) := fr_L1 (Or.inr (Or.inr (Or.inr ⟨rfl, rfl⟩)))
        refine ih (y + 1) fu _ (by omega) (by omega) (fr_trans g (fr_trans gL g2)) (zBs_f bL g2 rfl) (q3.trans hz) sL mLn (fun t a b => ?_) (fun t a St => ?_)
        · rw [pL_place (by omega), eL]; exact hl t (by omega) b
        · by_cases e1 : t = y
          · rw [e1, pL_same]; exact hv S
          · have := np_lt (p := p) (F := F) (n := n) (show t < y by omega) St
            rw [pL_place (by omega), eL]
            exact hw t (by omega) St
      · rw [if_pos (b1_f S), nI_s]
        refine ih (y + 1) fu L (by omega) (by omega) (fr_trans g gL) bL (q3.trans hz) sL mLn (fun t a b => by rw [eL]; exact hl t (by omega) b) (fun t a St => ?_)
        by_cases e1 : t = y
        · rw [e1] at St; exact absurd St S
        · rw [eL]; exact hw t (by omega) St
    by_cases S : z_S p F n y
    · rw [if_neg (b1_n0 S), h1.2.2.2.1, bd_some, h1.2.2.2.2.1, gd_pos (ix_t (by omega) (by decide)), bL.2.1 y hy]
      by_cases sy : f_sec p y
      · rw [if_neg (b1_n0 sy)]
        exact b106 (fun _ => trivial) _ (fun _ => (ic_f (fun z => z.1 sy)).symm)
      rw [if_pos (b1_f sy), q2.2.2.2.2.2.1]
      have jump : (d_fam (z_bc p F y) = 7 ∨ d_fam (z_bc p F y) = 8) → ∃ N1, (if (1 : Int32) = 0 then f_Facts_pack_b106 (f_Facts_pack_l2 0 1 0 fu) 0 1 0 L (nI y) (z_bc p F y) else (if nI y + 1 + mI L 2 1 8 < 0 then f_Facts_pack_b106 (f_Facts_pack_l2 0 1 0 fu) 0 1 0 L (nI y) (z_bc p F y) else (if (mI L 2 0 3) < nI y + 1 + mI L 2 1 8 then f_Facts_pack_b106 (f_Facts_pack_l2 0 1 0 fu) 0 1 0 L (nI y) (z_bc p F y) else bd (mR N 3 0 6) (fun (j42 : Nat) => gd (¬ (nI y + 1 + mI L 2 1 8 < 0 ∨ mZ N 13 j42 ≤ (nI y + 1 + mI L 2 1 8).toNatClampNeg)) (gd (¬ (nI y < 0 ∨ mZ N 13 j42 ≤ y)) (st (((mI L 13 j42 (nI y + 1 + mI L 2 1 8).toNatClampNeg) - (mI L 13 j42 y)) - 1) (fun (v46 : Int32) => st v46.toInt64 (fun (v47 : Int64) => st (((z_bc p F y) &&& (-4294901761)) ||| (jlshl (v47 &&& 65535) (16 : Int32))) (fun (v48 : Int64) => f_Facts_pack_b106 (f_Facts_pack_l2 0 1 0 fu) 0 1 0 L (nI y) v48))))))))) = some N1 ∧ fr zP M N1 ∧ zBs p n F N1 ∧ mI N1 2 1 3 = nI (z_np p F n n) ∧ ∀ t, t < n → z_S p F n t → mL N1 16 1 (z_np p F n t) = z_wd p F n t := by
        intro f78
        obtain ⟨t1, t2, t3⟩ := z_tn hp hy sy f78
        rw [if_neg (by decide), q2.2.2.2.1, t1, if_neg (nI_ps (by omega)), bL.1.1, if_neg (fun z => by have := (nI_lti (by omega) (by omega)).mp z; omega), w5, bd_some, w6, gd_pos (ix_ok (by omega) (by decide)), gd_pos (ix_t (by omega) (by decide)), nI_tn (by omega), mLn _ (by omega), mLn _ (by omega), st_eq, st_eq, st_eq, z_off2]
        exact b106 (fun _ => trivial) _ (fun _ => (ic_t ⟨sy, f78⟩).symm)
      by_cases f7 : d_fam (z_bc p F y) = 7
      · rw [if_pos f7, b2_some]
        exact jump (Or.inl f7)
      rw [if_neg f7]
      by_cases f8 : d_fam (z_bc p F y) = 8
      · rw [if_pos f8, b2_some]
        exact jump (Or.inr f8)
      rw [if_neg f8, b2_some, if_pos (show (0 : Int32) = 0 from rfl)]
      exact b106 (fun _ => trivial) _ (fun _ => (ic_f (fun z => z.2.elim f7 f8)).symm)
    · rw [if_pos (b1_f S)]
      exact b106 (fun _ => trivial) _ (fun z => absurd z S)
/-- the class makes it -/
theorem cshort (hn : n ≤ 2000) (hp : pF p n (f_sec p) nm) (hB : zBs p n F M) : ∃ N1, f_Facts_shorten M 0 0 1 = some N1 ∧ fr zP M N1 ∧ zBs p n F N1 ∧ mI N1 2 1 3 = nI (z_np p F n n) ∧ ∀ t, t < n → z_S p F n t → mL N1 16 1 (z_np p F n t) = z_wd p F n t := by
  unfold f_Facts_shorten
  rw [st_eq, hB.1.1]
  have g0 : fr zP M (wI M 2 1 3 (nI n)) := fr_I (Or.inl ⟨rfl, Or.inr rfl⟩)
  obtain ⟨A, fu, q1, q2, q3, q4, q5⟩ := cza (M := M) (F := F) hn n 0 fuel (wI M 2 1 3 (nI n)) (by omega) (by unfold fuel; omega) g0 (zBs_f hB g0 (wI_j (by decide))) pI_same (fun t ht => by omega)
  rw [show f_Facts_shorten_l10 0 0 1 fuel (wI M 2 1 3 (nI n)) (0 : Int32) = f_Facts_shorten_l10 0 0 1 (fu + 1) A (nI n) from q1, f_Facts_shorten_l10, q3.1.1, if_pos ((nI_lei (by omega) (by omega)).mpr (Nat.le_refl _))]
  have e0 : n - n = 0 := Nat.sub_self n
  obtain ⟨B', b1', b2', b3', b4', b5', b6'⟩ := czl (M := M) hn hp n fuel n A (Nat.le_refl _) (by unfold fuel; omega) q2 q3 q4 ⟨Nat.le_refl _, Nat.le_refl _, Or.inl rfl, fun t a b => by omega⟩ (fun t ht => by rw [e0]; exact (q5 t ht).1) (fun t ht => (q5 t ht).2)
  have hlo : f_Facts_leaveOutJumps A 0 1 0 = some B' := by
    unfold f_Facts_leaveOutJumps
    rw [st_eq, st_eq, q3.1.1, Int32.sub_eq_add_neg]
    exact b1'
  rw [hlo, bd_some, b3'.1.1]
  obtain ⟨C, c1, c2, c3, c4, c5, c6, c7⟩ := czn (M := M) hn n 0 fuel B' (by omega) (by unfold fuel; omega) b2' b3' b4' b5' b6' (fun t ht => by omega)
  have hnp : f_Facts_numberPlaces B' 0 (nI n) = some C := by
    unfold f_Facts_numberPlaces
    exact c1
  rw [hnp, bd_some]
  obtain ⟨D, d1, d2, d3, d4, d5⟩ := czp (M := M) hn hp n 0 fuel C (by omega) (by unfold fuel; omega) c2 c3 c4 c5 c7 (fun t _ ht => c6 t ht) (fun t ht => by omega)
  have hpk : f_Facts_pack C 0 1 0 = some D := by
    unfold f_Facts_pack
    exact d1
  rw [hpk, bd_some]
  exact ⟨D, rfl, d2, d3, d4, d5⟩
end ZC
