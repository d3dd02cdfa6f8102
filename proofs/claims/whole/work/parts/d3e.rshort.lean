/-! PURE: the reference makes the shorter program, whole. -/
section ZR
variable {p : Nat → Int64} {F : xF} {n nm : Nat} {M N N1 : me_M}
/-- do all between stay away -/
theorem rznone {k237 : me_M → Int32 → Option me_M} {A : Nat → Prop} {r T : Nat} (hN : ps_M N) (hr : r < n) (hT : T ≤ 2000) (hn : n ≤ 2000) (hs : ∀ t, t < n → mI N 15 5 t = b1 (A t)) (hTn : T ≤ n) : ∀ (k y fu : Nat) (v : Prop), (T ≤ y ∨ y + k = T) → (T ≤ y → k = 0) → k < fu → y ≤ n → f_M_shorten_l306 k237 0 (nI n) fu N (nI r) (nI T) (b1 v) (nI y) = k237 (wI N 15 5 r (b1 (¬ (v ∧ ∀ t, y ≤ t → t < T → ¬ A t)))) (nI r + -1) := by
  intro k
  induction k with
  | zero =>
    intro y fu v h1 h2 h3 h4
    obtain ⟨fu, rfl⟩ : ∃ f, fu = f + 1 := ⟨fu - 1, by omega⟩
    rw [f_M_shorten_l306, if_pos ((nI_lei (by omega) (by omega)).mpr (by omega)), rs_71 hN, bd_some]
    by_cases c : v
    · rw [if_neg (b1_n0 c), rz_15_5 hN, gd_pos (ix_ok (by omega) (by decide)), nI_tn (by omega), st_eq, b1_f (show ¬ ¬ (v ∧ ∀ t, y ≤ t → t < T → ¬ A t) from fun z => z ⟨c, fun t a b => by omega⟩)]
      rfl
    · rw [if_pos (b1_f c), rz_15_5 hN, gd_pos (ix_ok (by omega) (by decide)), nI_tn (by omega), st_eq, b1_t (show ¬ (v ∧ ∀ t, y ≤ t → t < T → ¬ A t) from fun z => c z.1)]
      rfl
  | succ k ih =>
    intro y fu v h1 h2 h3 h4
    obtain ⟨fu, rfl⟩ : ∃ f, fu = f + 1 := ⟨fu - 1, by omega⟩
    have lt : y < T := by omega
    rw [f_M_shorten_l306, if_neg (fun z => by have := (nI_lei (by omega) (by omega)).mp z; omega), nI_s]
    by_cases c : v
    · rw [if_neg (b1_n0 c), rs_71 hN, bd_some, rz_15_5 hN, gd_pos (ix_ok (by omega) (by decide)), nI_tn (by omega), hs y (by omega)]
      by_cases a : A y
      · rw [if_neg (b1_n0 a), show (0 : Int32) = b1 False by rw [b1_f id], ih (y + 1) fu False (by omega) (by omega) (by omega) (by omega)]
        rw [b1_t (show ¬ (False ∧ ∀ t, y + 1 ≤ t → t < T → ¬ A t) from fun z => z.1), b1_t (show ¬ (v ∧ ∀ t, y ≤ t → t < T → ¬ A t) from fun z => z.2 y (Nat.le_refl _) lt a)]
      · have i1 := ih (y + 1) fu True (by omega) (by omega) (by omega) (by omega)
        rw [b1_t (show True from trivial)] at i1
        rw [if_pos (b1_f a), i1]
        rw [b1_c (show (¬ (True ∧ ∀ t, y + 1 ≤ t → t < T → ¬ A t)) ↔ (¬ (v ∧ ∀ t, y ≤ t → t < T → ¬ A t)) from ⟨fun z w => z ⟨trivial, fun t a b => w.2 t (by omega) b⟩, fun z w => z ⟨c, fun t p q => by
          by_cases e : t = y
          · rw [e]; exact a
          · exact w.2 t (by omega) q⟩⟩)]
    · rw [if_pos (b1_f c), show (0 : Int32) = b1 False by rw [b1_f id], ih (y + 1) fu False (by omega) (by omega) (by omega) (by omega)]
      rw [b1_t (show ¬ (False ∧ ∀ t, y + 1 ≤ t → t < T → ¬ A t) from fun z => z.1), b1_t (show ¬ (v ∧ ∀ t, y ≤ t → t < T → ¬ A t) from fun z => c z.1)]
theorem rzl (hn : n ≤ 2000) (hp : pF p n (f_sec p) nm) : ∀ (r fu : Nat) (N : me_M), r ≤ n → r < fu → gS M N → rzB p n F N → (∀ t, t < n → mI N 15 5 t = b1 (z_lv p F n (n - r) t)) → (∀ t, t < n → mL N 16 12 t = z_bc p F t) → ∃ N1, f_M_shorten_l237 0 (nI n) fu N (nI r + -1) = f_M_shorten_l369 0 (nI n) fuel N1 0 ∧ gS M N1 ∧ rzB p n F N1 ∧ mI N1 1 0 15 = 0 ∧ (∀ t, t < n → mI N1 15 5 t = b1 (z_S p F n t)) ∧ ∀ t, t < n → mL N1 16 12 t = z_bc p F t := by
  intro r
  induction r with
  | zero =>
    intro fu N hr hf g hB hs hl
    obtain ⟨fu, rfl⟩ : ∃ f, fu = f + 1 := ⟨fu - 1, by omega⟩
    rw [f_M_shorten_l237, if_pos (show nI 0 + -1 < 0 by decide), st_eq]
    have g2 : gS N (wI N 1 0 15 0) := gf_I (Or.inr (Or.inr ⟨rfl, rfl, Or.inl rfl⟩))
    exact ⟨_, rfl, gf_trans g g2, rzB_f hB g2, pI_same, fun t ht => by rw [wI_j (by decide)]; exact hs t ht, hl⟩
  | succ r ih =>
    intro fu N hr hf g hB hs hl
    obtain ⟨fu, rfl⟩ : ∃ f, fu = f + 1 := ⟨fu - 1, by omega⟩
    have hy : r < n := by omega
    obtain ⟨h1, h2, h3, h4⟩ := hB
    have ej : n - r = (n - (r + 1)) + 1 := by omega
    have lv := lv_s (p := p) (F := F) (n := n) (j := n - (r + 1)) (r := r) (by omega)
    rw [← ej] at lv
    obtain ⟨A, hA⟩ : ∃ A, A = z_lv p F n (n - (r + 1)) := ⟨_, rfl⟩
    rw [← hA] at lv hs
    rw [nI_dec, f_M_shorten_l237, if_neg (nI_ps (by omega)), rs_71 h1, bd_some, rz_15_5 h1, gd_pos (ix_ok (by omega) (by decide)), nI_tn (by omega), hs r hy]
    have nxt : ∀ (N2 : me_M) (v : Prop), gS N N2 → (v ↔ (A r ∧ ¬ (z_j p F r ∧ r < z_t p F r ∧ ∀ t, r < t → t < z_t p F r → ¬ A t))) → mI N2 15 5 r = b1 v → (∀ t, t < n → ¬ t = r → mI N2 15 5 t = b1 (A t)) → (∀ t, t < n → mL N2 16 12 t = z_bc p F t) → ∃ N1, f_M_shorten_l237 0 (nI n) fu N2 (nI r + -1) = f_M_shorten_l369 0 (nI n) fuel N1 0 ∧ gS M N1 ∧ rzB p n F N1 ∧ mI N1 1 0 15 = 0 ∧ (∀ t, t < n → mI N1 15 5 t = b1 (z_S p F n t)) ∧ ∀ t, t < n → mL N1 16 12 t = z_bc p F t := by
      intro N2 v g2 hv a1 a2 a3
      refine ih fu N2 (by omega) (by omega) (gf_trans g g2) (rzB_f ⟨h1, h2, h3, h4⟩ g2) (fun t ht => ?_) a3
      rw [lv]
      by_cases e : t = r
      · rw [e, fup_s, a1, b1_c hv]
      · rw [fup_o e]; exact a2 t ht e
    have plain : (A r → ¬ (z_j p F r ∧ r < z_t p F r ∧ ∀ t, r < t → t < z_t p F r → ¬ A t)) → ∃ N1, f_M_shorten_l237 0 (nI n) fu N (nI r + -1) = f_M_shorten_l369 0 (nI n) fuel N1 0 ∧ gS M N1 ∧ rzB p n F N1 ∧ mI N1 1 0 15 = 0 ∧ (∀ t, t < n → mI N1 15 5 t = b1 (z_S p F n t)) ∧ ∀ t, t < n → mL N1 16 12 t = z_bc p F t := fun h => nxt N (A r) gf_refl ⟨fun z => ⟨z, h z⟩, fun z => z.1⟩ (hs r hy) (fun t ht _ => hs t ht) hl
    by_cases a : A r
    · rw [if_neg (b1_n0 a), rs_32 h1, bd_some, rz_15_3 h1, gd_pos (ix_t (by omega) (by decide)), h3 r hy]
      by_cases sy : f_sec p r
      · rw [if_neg (b1_n0 sy)]
        exact plain (fun _ z => z.1.1 sy)
      rw [if_pos (b1_f sy), rs_72 h1, bd_some, rz_16_12 h1, gd_pos (ix_t (by omega) (by decide)), hl r hy, r_op, bd_some]
      by_cases f7 : d_fam (z_bc p F r) = 7
      · obtain ⟨t1, t2, t3⟩ := z_tn hp hy sy (Or.inl f7)
        have none := fun (y : Nat) (v : Prop) => rznone (k237 := f_M_shorten_l237 0 (nI n) fu) (N := N) (n := n) (A := A) (r := r) (T := z_t p F r) h1 hy (by omega) hn hs (by omega) (z_t p F r - y) y fuel v
        rw [if_pos (op_5.mpr f7), r_off, bd_some, st_eq, t1]
        have fin : ∀ v : Prop, (v ↔ r < z_t p F r) → ∃ N1, f_M_shorten_l306 (f_M_shorten_l237 0 (nI n) fu) 0 (nI n) fuel N (nI r) (nI (z_t p F r)) (b1 v) (nI r + 1) = f_M_shorten_l369 0 (nI n) fuel N1 0 ∧ gS M N1 ∧ rzB p n F N1 ∧ mI N1 1 0 15 = 0 ∧ (∀ t, t < n → mI N1 15 5 t = b1 (z_S p F n t)) ∧ ∀ t, t < n → mL N1 16 12 t = z_bc p F t := by
          intro v hv
          rw [nI_s, none (r + 1) v (by omega) (by omega) (by unfold fuel; omega) (by omega)]
          refine nxt _ (¬ (v ∧ ∀ t, r + 1 ≤ t → t < z_t p F r → ¬ A t)) gS_5 ⟨fun z => ⟨a, fun w => z ⟨hv.mpr w.2.1, fun t x y => w.2.2 t (by omega) y⟩⟩, fun z w => z.2 ⟨⟨sy, f7⟩, hv.mp w.1, fun t x y => w.2 t (by omega) y⟩⟩ pI_same (fun t ht e => by rw [pI_place e]; exact hs t ht) hl
        by_cases le : z_t p F r ≤ r
        · rw [if_pos ((nI_lei (by omega) (by omega)).mpr le), st_eq]
          have := fin False ⟨fun z => z.elim, fun z => by omega⟩
          rw [b1_f id] at this
          exact this
        · rw [if_neg (fun z => le ((nI_lei (by omega) (by omega)).mp z)), st_eq]
          have := fin True ⟨fun _ => by omega, fun _ => trivial⟩
          rw [b1_t trivial] at this
          exact this
      · rw [if_neg (fun z => f7 (op_5.mp z))]
        exact plain (fun _ z => f7 z.1.2)
    · rw [if_pos (b1_f a)]
      exact plain (fun z => absurd z a)
theorem rzn (hn : n ≤ 2000) : ∀ (k y fu : Nat) (N : me_M), y + k = n → k < fu → gS M N → rzB p n F N → mI N 1 0 15 = nI (z_np p F n y) → (∀ t, t < n → mI N 15 5 t = b1 (z_S p F n t)) → (∀ t, t < n → mL N 16 12 t = z_bc p F t) → (∀ t, t < y → mI N 13 17 t = nI (z_np p F n t)) → ∃ N1, f_M_shorten_l369 0 (nI n) fu N (nI y) = f_M_shorten_l415 0 (nI n) fuel N1 0 ∧ gS M N1 ∧ rzB p n F N1 ∧ mI N1 1 0 15 = nI (z_np p F n n) ∧ (∀ t, t < n → mI N1 15 5 t = b1 (z_S p F n t)) ∧ (∀ t, t < n → mL N1 16 12 t = z_bc p F t) ∧ ∀ t, t < n → mI N1 13 17 t = nI (z_np p F n t) := by
  intro k
  induction k with
  | zero =>
    intro y fu N e hf g hB h15 hs hl hm
    obtain ⟨fu, rfl⟩ : ∃ f, fu = f + 1 := ⟨fu - 1, by omega⟩
    rw [f_M_shorten_l369, if_pos (show nI n ≤ nI y from (nI_lei (by omega) (by omega)).mpr (by omega))]
    rw [show y = n by omega] at h15 hm
    exact ⟨N, rfl, g, hB, h15, hs, hl, hm⟩
  | succ k ih =>
    intro y fu N e hf g hB h15 hs hl hm
    obtain ⟨fu, rfl⟩ : ∃ f, fu = f + 1 := ⟨fu - 1, by omega⟩
    have hy : y < n := by omega
    have h1 := hB.1
    rw [f_M_shorten_l369, if_neg (show ¬ nI n ≤ nI y from fun z => by have := (nI_lei (by omega) (by omega)).mp z; omega), rs_73 h1, bd_some, rz_13_17 h1, gd_pos (ix_ok (by omega) (by decide)), nI_tn (by omega), h15, st_eq, rs_71 h1, bd_some, rz_15_5 h1, gd_pos (ix_t (by omega) (by decide)), wI_j (by decide), hs y hy, wI_j (by decide), h15, st_eq, st_eq, nI_s, nI_s]
    have nx : ∀ v : Nat, v = z_np p F n (y + 1) → ∃ N1, f_M_shorten_l369 0 (nI n) fu (wI (wI N 13 17 y (nI (z_np p F n y))) 1 0 15 (nI v)) (nI (y + 1)) = f_M_shorten_l415 0 (nI n) fuel N1 0 ∧ gS M N1 ∧ rzB p n F N1 ∧ mI N1 1 0 15 = nI (z_np p F n n) ∧ (∀ t, t < n → mI N1 15 5 t = b1 (z_S p F n t)) ∧ (∀ t, t < n → mL N1 16 12 t = z_bc p F t) ∧ ∀ t, t < n → mI N1 13 17 t = nI (z_np p F n t) := by
      intro v hv
      have g2 : gS N (wI (wI N 13 17 y (nI (z_np p F n y))) 1 0 15 (nI v)) := gf_trans gS_17 (gf_I (Or.inr (Or.inr ⟨rfl, rfl, Or.inl rfl⟩)))
      refine ih (y + 1) fu _ (by omega) (by omega) (gf_trans g g2) (rzB_f hB g2) (by rw [pI_same, hv]) (fun t ht => by rw [wI_j (by decide), wI_j (by decide)]; exact hs t ht) hl (fun t ht => ?_)
      rw [wI_j (by decide)]
      by_cases e1 : t = y
      · rw [e1, pI_same]
      · rw [pI_place e1]; exact hm t (by omega)
    have enp : z_np p F n (y + 1) = z_np p F n y + ic (z_S p F n y) 1 0 := rfl
    by_cases S : z_S p F n y
    · rw [if_neg (b1_n0 S)]
      exact nx _ (by rw [enp, ic_t S])
    · rw [if_pos (b1_f S), Int32.add_zero]
      exact nx _ (by rw [enp, ic_f S, Nat.add_zero])
theorem rzp (hn : n ≤ 2000) (hp : pF p n (f_sec p) nm) : ∀ (k y fu : Nat) (N : me_M), y + k = n → k < fu → gS M N → rzB p n F N → mI N 1 0 15 = nI (z_np p F n n) → (∀ t, t < n → mI N 15 5 t = b1 (z_S p F n t)) → (∀ t, t < n → mL N 16 12 t = z_bc p F t) → (∀ t, t < n → mI N 13 17 t = nI (z_np p F n t)) → (∀ t, t < y → z_S p F n t → mL N 16 2 (z_np p F n t) = z_wd p F n t) → ∃ N1, f_M_shorten_l415 0 (nI n) fu N (nI y) = some N1 ∧ gS M N1 ∧ rzB p n F N1 ∧ mI N1 1 0 15 = nI (z_np p F n n) ∧ mI N1 1 0 26 = nI (z_np p F n n) ∧ ∀ t, t < n → z_S p F n t → mL N1 16 2 (z_np p F n t) = z_wd p F n t := by
  intro k
  induction k with
  | zero =>
    intro y fu N e hf g hB h15 hs hl hm hw
    obtain ⟨fu, rfl⟩ : ∃ f, fu = f + 1 := ⟨fu - 1, by omega⟩
    rw [f_M_shorten_l415, if_pos (show nI n ≤ nI y from (nI_lei (by omega) (by omega)).mpr (by omega)), st_eq, h15]
    have g2 : gS N (wI N 1 0 26 (nI (z_np p F n n))) := gf_I (Or.inr (Or.inr ⟨rfl, rfl, Or.inr rfl⟩))
    exact ⟨_, rfl, gf_trans g g2, rzB_f hB g2, by rw [pI_place (by decide)]; exact h15, pI_same, fun t ht => hw t (by omega)⟩
  | succ k ih =>
    intro y fu N e hf g hB h15 hs hl hm hw
    obtain ⟨fu, rfl⟩ : ∃ f, fu = f + 1 := ⟨fu - 1, by omega⟩
    have hy : y < n := by omega
    have h1 := hB.1
    have nle := np_le (p := p) (F := F) (n := n) (s := y)
    rw [f_M_shorten_l415, if_neg (show ¬ nI n ≤ nI y from fun z => by have := (nI_lei (by omega) (by omega)).mp z; omega), rs_71 h1, bd_some, rz_15_5 h1, gd_pos (ix_ok (by omega) (by decide)), nI_tn (by omega), hs y hy]
    by_cases S : z_S p F n y
    · rw [if_neg (b1_n0 S), rs_72 h1, bd_some, rz_16_12 h1, gd_pos (ix_t (by omega) (by decide)), hl y hy, st_eq, rs_32 h1, bd_some, rz_15_3 h1, gd_pos (ix_t (by omega) (by decide)), hB.2.2.1 y hy]
      have row : ∀ v : Int64, v = z_wd p F n y → ∃ N1, f_M_shorten_l415 0 (nI n) fu (wL N 16 2 (z_np p F n y) v) (nI (y + 1)) = some N1 ∧ gS M N1 ∧ rzB p n F N1 ∧ mI N1 1 0 15 = nI (z_np p F n n) ∧ mI N1 1 0 26 = nI (z_np p F n n) ∧ ∀ t, t < n → z_S p F n t → mL N1 16 2 (z_np p F n t) = z_wd p F n t := by
        intro v hv
        refine ih (y + 1) fu _ (by omega) (by omega) (gf_trans g (gS_L (Or.inr rfl))) (rzB_f hB (gS_L (Or.inr rfl))) h15 hs (fun t ht => by rw [pL_thing (by decide)]; exact hl t ht) hm (fun t ht St => ?_)
        by_cases e1 : t = y
        · rw [e1, pL_same, hv]
        · have := np_lt (p := p) (F := F) (n := n) (show t < y by omega) St
          rw [pL_place (by omega)]
          exact hw t (by omega) St
      have plain : ¬ (¬ f_sec p y ∧ (d_fam (z_bc p F y) = 7 ∨ d_fam (z_bc p F y) = 8)) → ∀ s0 : Int32, ¬ s0 = 10 → ¬ s0 = 11 → ∃ N1, f_M_shorten_b459 (f_M_shorten_l415 0 (nI n) fu) 0 (nI n) N (nI y) (z_bc p F y) s0 = some N1 ∧ gS M N1 ∧ rzB p n F N1 ∧ mI N1 1 0 15 = nI (z_np p F n n) ∧ mI N1 1 0 26 = nI (z_np p F n n) ∧ ∀ t, t < n → z_S p F n t → mL N1 16 2 (z_np p F n t) = z_wd p F n t := by
        intro nj s0 n10 n11
        unfold f_M_shorten_b459
        rw [if_neg n10, if_neg n11, rs_17 h1, bd_some, rs_73 h1, bd_some, rz_13_17 h1, gd_pos (ix_ok (by omega) (by decide)), nI_tn (by omega), hm y hy, rz_16_2 h1, gd_pos (ix_ok (by omega) (by decide)), nI_tn (by omega), st_eq, nI_s]
        exact row _ (ic_f nj).symm
      by_cases sy : f_sec p y
      · rw [if_neg (b1_n0 sy)]
        exact plain (fun z => z.1 sy) 0 (by decide) (by decide)
      rw [if_pos (b1_f sy), r_op, bd_some, r_ins, bd_some]
      obtain ⟨_, k10, k11, _⟩ := kri_f (c := z_bc p F y)
      by_cases f78 : (d_fam (z_bc p F y) = 7 ∨ d_fam (z_bc p F y) = 8)
      · obtain ⟨t1, t2, t3⟩ := z_tn hp hy sy f78
        have b475 : ∃ N1, f_M_shorten_b475 (f_M_shorten_l415 0 (nI n) fu) 0 (nI n) N (nI y) (z_bc p F y) = some N1 ∧ gS M N1 ∧ rzB p n F N1 ∧ mI N1 1 0 15 = nI (z_np p F n n) ∧ mI N1 1 0 26 = nI (z_np p F n n) ∧ ∀ t, t < n → z_S p F n t → mL N1 16 2 (z_np p F n t) = z_wd p F n t := by
          unfold f_M_shorten_b475
          rw [rs_73 h1, bd_some, r_off, bd_some, t1, rz_13_17 h1, gd_pos (ix_ok (by omega) (by decide)), gd_pos (ix_ok (by omega) (by decide)), nI_tn (by omega), nI_tn (by omega), hm _ t2, hm y hy, st_eq, st_eq, st_eq, rs_17 h1, bd_some, rz_16_2 h1, gd_pos (ix_ok (by omega) (by decide)), nI_tn (by omega), st_eq, nI_s]
          exact row _ (ic_t ⟨sy, f78⟩).symm
        unfold f_M_shorten_b459
        by_cases f7 : d_fam (z_bc p F y) = 7
        · rw [if_pos (k10.mpr f7)]; exact b475
        · rw [if_neg (fun z => f7 (k10.mp z)), if_pos (k11.mpr (f78.elim (fun z => absurd z f7) id))]; exact b475
      · exact plain (fun z => f78 z.2) _ (fun z => f78 (Or.inl (k10.mp z))) (fun z => f78 (Or.inr (k11.mp z)))
    · rw [if_pos (b1_f S), nI_s]
      refine ih (y + 1) fu N (by omega) (by omega) g hB h15 hs hl hm (fun t ht St => ?_)
      by_cases e1 : t = y
      · rw [e1] at St; exact absurd St S
      · exact hw t (by omega) St
theorem rshort (hn : n ≤ 2000) (hp : pF p n (f_sec p) nm) (hB : rzB p n F M) : ∃ N1, f_M_shorten M 0 (nI n) = some N1 ∧ gS M N1 ∧ rzB p n F N1 ∧ mI N1 1 0 15 = nI (z_np p F n n) ∧ mI N1 1 0 26 = nI (z_np p F n n) ∧ ∀ t, t < n → z_S p F n t → mL N1 16 2 (z_np p F n t) = z_wd p F n t := by
  unfold f_M_shorten
  obtain ⟨A, fu, q1, q2, q3, q5⟩ := rza (M := M) (F := F) hn n 0 fuel M (by omega) (by unfold fuel; omega) gf_refl hB (fun t ht => by omega)
  rw [show f_M_shorten_l2 0 (nI n) fuel M (0 : Int32) = f_M_shorten_l2 0 (nI n) (fu + 1) A (nI n) from q1, f_M_shorten_l2, if_pos ((nI_lei (by omega) (by omega)).mpr (Nat.le_refl _)), st_eq, Int32.sub_eq_add_neg]
  have e0 : n - n = 0 := Nat.sub_self n
  obtain ⟨B', b1', b2', b3', b4', b5', b6'⟩ := rzl (M := M) hn hp n fuel A (Nat.le_refl _) (by unfold fuel; omega) q2 q3 (fun t ht => by rw [e0]; exact (q5 t ht).1) (fun t ht => (q5 t ht).2)
  rw [b1']
  obtain ⟨C, c1, c2, c3, c4, c5, c6, c7⟩ := rzn (M := M) hn n 0 fuel B' (by omega) (by unfold fuel; omega) b2' b3' b4' b5' b6' (fun t ht => by omega)
  rw [show f_M_shorten_l369 0 (nI n) fuel B' (0 : Int32) = f_M_shorten_l415 0 (nI n) fuel C 0 from c1]
  exact rzp (M := M) hn hp n 0 fuel C (by omega) (by unfold fuel; omega) c2 c3 c4 c5 c6 c7 (fun t ht => by omega)
end ZR
