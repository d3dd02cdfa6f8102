/-! PURE: the reference's loads and stores against the typed machine. -/
/-- what a step leaves alone -/
def rgp (nm : Nat) (en : Nat → Nat) (M N : me_M) : Prop := mR N = mR M ∧ mN N = mN M ∧ mZ N = mZ M ∧ (∀ k j, ¬ (k = 1 ∧ j = 0) → ¬ (k = 14 ∧ (j = 1 ∨ j = 2 ∨ j = 3 ∨ j = 5 ∨ j = 6 ∨ j = 7)) → ¬ (k = 15 ∧ j = 0) → mI N k j = mI M k j) ∧ (∀ f, ¬ f = 38 → mI N 1 0 f = mI M 1 0 f) ∧ (∀ k j, ¬ (k = 1 ∧ j = 0) → ¬ (k = 16 ∧ (j = 4 ∨ j = 5)) → ¬ k = 14 → ¬ k = 15 → mL N k j = mL M k j) ∧ ∀ x, ¬ (∃ l i, l < nm ∧ i < en l ∧ x = 64 * l + i) → mI N 15 0 x = mI M 15 0 x
section IRM
variable {nm : Nat} {tb : Nat → Prop} {kb vb : Int32 → Int32} {en : Nat → Nat} {T U : tyT} {M N O : me_M} {c v w X pl : Int64} {i n m s A b : Nat} {t x : tyV}
theorem rgp_refl : rgp nm en M M := ⟨rfl, rfl, rfl, fun _ _ _ _ _ => rfl, fun _ _ => rfl, fun _ _ _ _ _ _ => rfl, fun _ _ => rfl⟩
theorem rgp_trans (h : rgp nm en M N) (g : rgp nm en N O) : rgp nm en M O := ⟨g.1.trans h.1, g.2.1.trans h.2.1, g.2.2.1.trans h.2.2.1, fun k j a b d => (g.2.2.2.1 k j a b d).trans (h.2.2.2.1 k j a b d), fun f a => (g.2.2.2.2.1 f a).trans (h.2.2.2.2.1 f a), fun k j a b d e => (g.2.2.2.2.2.1 k j a b d e).trans (h.2.2.2.2.2.1 k j a b d e), fun x a => (g.2.2.2.2.2.2 x a).trans (h.2.2.2.2.2.2 x a)⟩
theorem rgp_L {k j f : Nat} {y : Int64} (hk : (k = 1 ∧ j = 0) ∨ (k = 16 ∧ (j = 4 ∨ j = 5))) : rgp nm en M (wL M k j f y) := ⟨rfl, rfl, rfl, fun _ _ _ _ _ => rfl, fun _ _ => rfl, fun k2 j2 a b _ _ => wL_o (fun z => by
  obtain ⟨z1, z2⟩ := z
  subst z1
  subst z2
  exact hk.elim a b), fun _ _ => rfl⟩
theorem rgp_fr {j : Nat} (h : fr (fun k i => k = 14 ∧ i = j) M N) (hj : j = 1 ∨ j = 2 ∨ j = 3 ∨ j = 5 ∨ j = 6 ∨ j = 7) : rgp nm en M N := ⟨h.1, h.2.1, h.2.2.1, fun k i _ b _ => h.2.2.2.1 k i (fun z => b ⟨z.1, by rw [z.2]; exact hj⟩), fun f _ => by rw [h.2.2.2.1 1 0 (fun z => absurd z.1 (by decide))], fun k i _ _ d _ => h.2.2.2.2 k i (fun z => d z.1), fun x _ => by rw [h.2.2.2.1 15 0 (fun z => absurd z.1 (by decide))]⟩
theorem rSh_of (h : rgp nm en M N) (hS : rSh nm tb kb vb en M) : rSh nm tb kb vb en N := by
  unfold rSh at hS ⊢
  have e : ∀ j, mI N 13 j = mI M 13 j := fun j => h.2.2.2.1 13 j (fun z => absurd z.1 (by decide)) (fun z => absurd z.1 (by decide)) (fun z => absurd z.1 (by decide))
  rw [h.1, h.2.2.1, e, e, e, e]
  exact hS
theorem rRl_reg (h : rRl nm tb kb vb en T M) (hi : i < 11) (hv : ¬ t.1 = 0 → v = rr_ t) : rRl nm tb kb vb en (ty_set T i t) (wL M 16 5 i v) := by
  obtain ⟨h1, h2, h3, h4⟩ := h
  refine ⟨rSh_of (rgp_L (Or.inr ⟨rfl, Or.inr rfl⟩)) h1, ?_, h3, h4⟩
  rw [wL_h, wL_o (fun z => absurd z.2 (by decide)), wL_o (fun z => absurd z.1 (by decide))]
  exact mo_set h2 hi hv
theorem rd_go (h1 : ¬ X = 1099511627776) (h2 : ¬ X = 1099511627784) : f_M_read M 0 X (nI n) = f_M_read_l50 0 X fuel M 0 (nI n + -1) := by
  unfold f_M_read f_M_read_b18
  by_cases e : nI n = 8
  · rw [if_pos e, if_neg h1, if_pos e, if_neg h2, st_eq, Int32.sub_eq_add_neg]
  · rw [if_neg e, if_neg e, st_eq, Int32.sub_eq_add_neg]
theorem l_ne {k : Int64} (h : ¬ X.toInt = k.toInt) : ¬ X = k := fun z => h (by rw [z])
theorem r_read (hR : rRl nm tb kb vb en T M) (hI : tyI nm en T) (hm : mpz nm kb vb en) (ho : ty_load c vb T = some U) : ∃ x, U = ty_set T (d_ti c) x ∧ (x.1 = 7 → x.2.2.1 < nm ∧ x.2.2.2 < en x.2.2.1) ∧ ty_ptr (tyC T (d_fi c)) ∧ f_M_read M 0 (rr_ (tyC T (d_fi c)) + (d_off c).toInt64) (d_by c) = some (M, rr_ x) := by
  obtain ⟨hS, hmo, hst, hcx⟩ := hR
  obtain ⟨t, et⟩ : ∃ t, t = tyC T (d_fi c) := ⟨_, rfl⟩
  obtain ⟨pl, epl⟩ : ∃ pl, pl = ty_pl c t := ⟨_, rfl⟩
  obtain ⟨l1, l2, x, l3, l4, l5, l6, l7, l8, l9⟩ := load_rd rr_1 hmo.2.1 hI ho et epl
  have nnb := nn_by c
  have hby : d_by c = nI (d_nn c) := Int32.toInt_inj.mp (by rw [nI_int (by omega)]; exact nnb.1)
  have h7 : t.1 = 7 → t.2.2.1 < nm ∧ t.2.2.2 < en t.2.2.1 := by rw [et]; exact hI _
  rw [← et]
  refine ⟨x, l3, l5, l1, ?_⟩
  rw [rr_add l1, hby]
  have epl2 : (t.1, t.2.1 + (d_off c).toInt64, t.2.2) = (t.1, pl, t.2.2) := by rw [epl]
  rw [epl2]
  obtain ⟨a2, a3, a4, a7⟩ := r_ad hm h7 l1 l2 hmo.2.2.2.1.2 (show 0 < d_nn c by omega) (by omega)
  have e0 : rr_ (t.1, pl, t.2.2) + (nI 0).toInt64 = rr_ (t.1, pl, t.2.2) := Int64.add_zero _
  rw [e0] at a2 a3 a4 a7
  have hrd := r_rd_l hS hm h7 l1 l2 hmo.2.2.2.1.2 (by omega) (d_nn c) fuel 0 (Nat.le_refl _) (by unfold fuel; omega)
  have l2' := l2
  unfold ty_in at l2'
  rcases l1 with k | k | k | k
  · rw [if_pos k] at l2'
    have tp := tn_pos l2'.1
    have ej : rj t = 4 := if_pos k
    have ea : rA t pl = pl.toNatClampNeg := by
      unfold rA ty_ad
      rw [if_neg (by rw [k]; decide), if_neg (by rw [k]; decide)]
    rw [ea] at a2
    rcases (l6 k).2 with ⟨g, e⟩ | ⟨g, n8, p0, e⟩ | ⟨g, n8, p0, e⟩
    · rw [l_le] at g
      have g : 16 ≤ pl.toInt := g
      have a := (a2 k).1
      rw [rd_go (l_ne (by show ¬ _ = (1099511627776 : Int); omega)) (l_ne (by show ¬ _ = (1099511627784 : Int); omega)), hrd, ej, ea, e, rr_1 _ rfl]
      rw [yn_c (g := uC (tyW T)) (b := pl.toNatClampNeg) _ _ (fun i hi => hcx _ (by omega) (by omega))]
    · rw [p0, n8, k, e]
      rw [show rr_ (2, 0, t.2.2) = 1099511627776 by rfl]
      unfold f_M_read
      rw [if_pos rfl, if_pos (show nI 8 = 8 from rfl)]
      rw [show rr_ (4, 0, 0, 0) = 3298534883328 by decide]
    · have b8 : d_by c = 8 := by rw [hby, n8]; rfl
      have hj := (l6 k).1.1
      rw [b8] at hj
      have p8 := pl_8 l2'.1 g p0 hj
      rw [p8, n8, k, e]
      rw [show rr_ (2, 8, t.2.2) = 1099511627784 by rfl]
      unfold f_M_read f_M_read_b18
      have n8' : nI 8 = 8 := rfl
      rw [n8', if_pos rfl, if_neg (show ¬ (1099511627784 : Int64) = 1099511627776 by decide), if_pos rfl, if_pos rfl, hmo.2.2.2.1.1]
      rfl
  · have a := (a3 k).1
    have ej : rj t = 5 := by unfold rj; rw [if_neg (by rw [k]; decide), if_pos k]
    have ea : rA t pl = (pl + 512).toNatClampNeg := by
      unfold rA ty_ad
      rw [if_neg (by rw [k]; decide), if_pos k]
    rw [rd_go (l_ne (by show ¬ _ = (1099511627776 : Int); omega)) (l_ne (by show ¬ _ = (1099511627784 : Int); omega)), hrd, ej, ea, (l7 k).2.1]
  · rw [if_neg (by rw [k]; decide), if_neg (by rw [k]; decide), if_pos k] at l2'
    have tp := tn_pos l2'.1
    have a := (a4 k).1
    have ej : rj t = 3 := by unfold rj; rw [if_neg (by rw [k]; decide), if_neg (by rw [k]; decide), if_pos k]
    have ea : rA t pl = pl.toNatClampNeg := by
      unfold rA ty_ad
      rw [if_neg (by rw [k]; decide), if_neg (by rw [k]; decide)]
    have z2 := hmo.2.2.2.1.2
    rw [rd_go (l_ne (by show ¬ _ = (1099511627776 : Int); omega)) (l_ne (by show ¬ _ = (1099511627784 : Int); omega)), hrd, ej, ea, l8 k, rr_1 _ rfl]
    rw [yn_c (g := uP (tyW T)) (b := pl.toNatClampNeg) _ _ (fun i hi => hmo.2.2.1 _ (by omega))]
  · rw [if_neg (by rw [k]; decide), if_neg (by rw [k]; decide), if_neg (by rw [k]; decide)] at l2'
    obtain ⟨m1, m2⟩ := h7 k
    have tp := tn_pos l2'.2.1
    have kp := (kn_pos hm m1).2
    have a := (a7 k).1
    have ej : rj t = 2 := by unfold rj; rw [if_neg (by rw [k]; decide), if_neg (by rw [k]; decide), if_neg (by rw [k]; decide)]
    have ea : rA t pl = 64 * (64 * t.2.2.1 + t.2.2.2) + pl.toNatClampNeg := by
      unfold rA
      rw [if_pos k]
    rw [rd_go (l_ne (by show ¬ _ = (1099511627776 : Int); omega)) (l_ne (by show ¬ _ = (1099511627784 : Int); omega)), hrd, ej, ea, l9 k, rr_1 _ rfl]
    rw [yn_c (f := mI M 14 2) (a := 64 * (64 * t.2.2.1 + t.2.2.2) + pl.toNatClampNeg) (g := uV (tyW T) t.2.2.1 t.2.2.2) (b := pl.toNatClampNeg) _ _ (fun i hi => by
      rw [Nat.add_assoc]
      exact (hst _ m1).2.1 _ m2 _ (by show _ < kn vb t.2.2.1; omega))]
/-- a store: x is what is stored -/
theorem r_put (hR : rRl nm tb kb vb en T M) (hI : tyI nm en T) (hm : mpz nm kb vb en) (hx0 : ¬ (ty_op c T).1 = 0) (ho : ty_put c vb T = some U) : ty_ptr (tyC T (d_ti c)) ∧ tyI nm en U ∧ (d_fam c = 5 → ∃ r, f_M_read M 0 (rr_ (tyC T (d_ti c)) + (d_off c).toInt64) (d_by c) = some (M, r) ∧ ∃ N, f_M_write M 0 (rr_ (tyC T (d_ti c)) + (d_off c).toInt64) (r + rr_ (ty_op c T)) (d_by c) = some N ∧ rRl nm tb kb vb en U N ∧ rgp nm en M N) ∧ (¬ d_fam c = 5 → ∃ N, f_M_write M 0 (rr_ (tyC T (d_ti c)) + (d_off c).toInt64) (rr_ (ty_op c T)) (d_by c) = some N ∧ rRl nm tb kb vb en U N ∧ rgp nm en M N) := by
  obtain ⟨hS, hmo, hst, hcx⟩ := hR
  obtain ⟨t, et⟩ : ∃ t, t = tyC T (d_ti c) := ⟨_, rfl⟩
  obtain ⟨x, ex⟩ : ∃ x, x = ty_op c T := ⟨_, rfl⟩
  obtain ⟨pl, epl⟩ : ∃ pl, pl = ty_pl c t := ⟨_, rfl⟩
  obtain ⟨l1, l0, l2, l3, l4, l5, l6, l7⟩ := put_rd rr_1 hmo hst hI ho et epl ex (by rw [ex]; exact hx0)
  have nnb := nn_by c
  have hby : d_by c = nI (d_nn c) := Int32.toInt_inj.mp (by rw [nI_int (by omega)]; exact nnb.1)
  have h7 : t.1 = 7 → t.2.2.1 < nm ∧ t.2.2.2 < en t.2.2.1 := by rw [et]; exact hI _
  rw [← et, ← ex]
  refine ⟨l1, l4, ?_⟩
  rw [rr_add l1, hby]
  have epl2 : (t.1, t.2.1 + (d_off c).toInt64, t.2.2) = (t.1, pl, t.2.2) := by rw [epl]
  rw [epl2]
  obtain ⟨a2, a3, a4, a7⟩ := r_ad hm h7 l1 l2 hmo.2.2.2.1.2 (show 0 < d_nn c by omega) (by omega)
  have e0 : rr_ (t.1, pl, t.2.2) + (nI 0).toInt64 = rr_ (t.1, pl, t.2.2) := Int64.add_zero _
  rw [e0] at a3 a7
  have hrd : d_fam c = 5 → f_M_read M 0 (rr_ (t.1, pl, t.2.2)) (nI (d_nn c)) = some (M, yn (mI M 14 (rj t)) (rA t pl) (d_nn c) 0) := by
    intro f5
    have kk : t.1 = 3 ∨ t.1 = 7 := by
      rcases l1 with k | k | k | k
      · exact absurd k l0
      · exact Or.inl k
      · exact absurd f5 (l6 k).1
      · exact Or.inr k
    have a : 2199023255040 ≤ (rr_ (t.1, pl, t.2.2)).toInt := by
      rcases kk with k | k
      · have := (a3 k).1; omega
      · have := (a7 k).1; omega
    rw [rd_go (l_ne (by show ¬ _ = (1099511627776 : Int); omega)) (l_ne (by show ¬ _ = (1099511627784 : Int); omega))]
    exact r_rd_l hS hm h7 l1 l2 hmo.2.2.2.1.2 (by omega) (d_nn c) fuel 0 (Nat.le_refl _) (by unfold fuel; omega)
  have all : ∀ w, w = (if d_fam c = 5 then yn (mI M 14 (rj t)) (rA t pl) (d_nn c) 0 else 0) + rr_ x → ∃ N, f_M_write M 0 (rr_ (t.1, pl, t.2.2)) w (nI (d_nn c)) = some N ∧ rRl nm tb kb vb en U N ∧ rgp nm en M N := by
    intro w ew
    obtain ⟨N1, n1, n2, n3⟩ := r_wr (v := w) hS hm h7 l1 l0 l2 hmo.2.2.2.1.2 nnb.2.2
    have hrj : rj t = 1 ∨ rj t = 2 ∨ rj t = 3 ∨ rj t = 5 ∨ rj t = 6 ∨ rj t = 7 := by
      unfold rj
      rw [if_neg l0]
      split
      · exact Or.inr (Or.inr (Or.inr (Or.inl rfl)))
      · split
        · exact Or.inr (Or.inr (Or.inl rfl))
        · exact Or.inr (Or.inl rfl)
    have hg : rgp nm en M N1 := rgp_fr n2 hrj
    refine ⟨N1, n1, ⟨rSh_of hg hS, ?_⟩, hg⟩
    have n14 : ∀ j, ¬ j = rj t → mI N1 14 j = mI M 14 j := fun j hj => n2.2.2.2.1 14 j (fun z => hj z.2)
    have n15 : mI N1 15 0 = mI M 15 0 := n2.2.2.2.1 15 0 (fun z => absurd z.1 (by decide))
    have nL : ∀ k j, ¬ k = 14 → mL N1 k j = mL M k j := fun k j hk => n2.2.2.2.2 k j (fun z => hk z.1)
    have n1' : mI N1 1 0 = mI M 1 0 := n2.2.2.2.1 1 0 (fun z => absurd z.1 (by decide))
    rw [nL 16 5 (by decide), nL 16 4 (by decide), nL 1 0 (by decide), n1', n15]
    rcases l1 with k | k | k | k
    · exact absurd k l0
    · have ej : rj t = 5 := by unfold rj; rw [if_neg l0, if_pos k]
      have ea : rA t pl = (pl + 512).toNatClampNeg := by
        unfold rA ty_ad
        rw [if_neg (by rw [k]; decide), if_pos k]
      obtain ⟨g1, g2, g3, g4, _⟩ := l5 k
      rw [ej, ea] at n3 ew
      rw [← ew] at g3
      rw [n3, n14 3 (by rw [ej]; decide), n14 1 (by rw [ej]; decide), n14 2 (by rw [ej]; decide), n14 4 (by rw [ej]; decide), g4]
      exact ⟨g3, hst, hcx⟩
    · have ej : rj t = 3 := by unfold rj; rw [if_neg l0, if_neg (by rw [k]; decide), if_pos k]
      have ea : rA t pl = pl.toNatClampNeg := by
        unfold rA ty_ad
        rw [if_neg (by rw [k]; decide), if_neg (by rw [k]; decide)]
      obtain ⟨g1, g2, g3, g4, _⟩ := l6 k
      rw [if_neg g1, Int64.zero_add] at ew
      rw [ej, ea] at n3
      rw [← ew] at g2
      rw [n3, n14 5 (by rw [ej]; decide), n14 1 (by rw [ej]; decide), n14 2 (by rw [ej]; decide), n14 4 (by rw [ej]; decide), g4]
      exact ⟨g2, g3, hcx⟩
    · obtain ⟨m1, m2, g1, g2, g3, _⟩ := l7 k
      have ej : rj t = 2 := by unfold rj; rw [if_neg l0, if_neg (by rw [k]; decide), if_neg (by rw [k]; decide)]
      have ea : rA t pl = 64 * (64 * t.2.2.1 + t.2.2.2) + pl.toNatClampNeg := by
        unfold rA
        rw [if_pos k]
      have hP := (a7 k).2.2
      rw [ej, ea] at n3 ew
      have ew2 : w = (if d_fam c = 5 then yn (fun b => mI M 14 2 (64 * (64 * t.2.2.1 + t.2.2.2) + b)) pl.toNatClampNeg (d_nn c) 0 else 0) + rr_ x := by
        rw [ew]
        by_cases f5 : d_fam c = 5
        · rw [if_pos f5, if_pos f5]
          rw [yn_c (f := mI M 14 2) (g := fun b => mI M 14 2 (64 * (64 * t.2.2.1 + t.2.2.2) + b)) (a := 64 * (64 * t.2.2.1 + t.2.2.2) + pl.toNatClampNeg) (b := pl.toNatClampNeg) _ _ (fun i _ => by rw [Nat.add_assoc])]
        · rw [if_neg f5, if_neg f5]
      rw [← ew2] at g2
      rw [n14 5 (by rw [ej]; decide), n14 3 (by rw [ej]; decide), n14 1 (by rw [ej]; decide), n14 4 (by rw [ej]; decide), g3]
      refine ⟨g1, mst_e g2 (fun _ _ _ _ => rfl) (fun _ _ _ _ _ _ => rfl) (fun l hl a ha b hb => ?_), hcx⟩
      have v64 := (hS.2.2.2 l hl).2.2.2.2.2.2
      have m4 := hm.1
      have e64 := (hm.2 _ m1).2.2
      rw [n3]
      unfold fup
      by_cases em : l = t.2.2.1
      · rw [if_pos em, em]
        by_cases ei : a = t.2.2.2
        · rw [if_pos ei, ei]
          unfold wrb
          by_cases er : pl.toNatClampNeg ≤ b ∧ b < pl.toNatClampNeg + d_nn c
          · rw [if_pos (by omega), if_pos er, show 64 * (64 * t.2.2.1 + t.2.2.2) + b - (64 * (64 * t.2.2.1 + t.2.2.2) + pl.toNatClampNeg) = b - pl.toNatClampNeg by omega]
          · rw [if_neg (by omega), if_neg er]
        · rw [if_neg ei, wrb_out (by omega)]
      · rw [if_neg em, wrb_out (by omega)]
  constructor
  · intro f5
    refine ⟨_, hrd f5, all _ (by rw [if_pos f5])⟩
  · intro f5
    exact all _ (by rw [if_neg f5, Int64.zero_add])
end IRM
