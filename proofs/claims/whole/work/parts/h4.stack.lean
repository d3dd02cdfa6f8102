/-! PURE: bytes of the stack as they stand in a run; rc: the longs that values are. -/
def ys (rc : tyV → Int64) (T : tyT) (a : Nat) (v : Int32) : Prop := (¬ (tyC T (74 - a / 8)).1 = 0 → v = yb (rc (tyC T (74 - a / 8))) (a % 8)) ∧ ((tyC T (74 - a / 8)).1 = 0 → ib (tyM T (74 - a / 8)) (a % 8) = true → v = tyB T a)
section HST
variable {rc : tyV → Int64} {T : tyT} {f : Nat → Int32} {c pl v : Int64} {A n a b : Nat} {x t : tyV}
theorem ys_w (hs : ∀ a, a < 512 → ys rc T a (f a)) (hA : A < 512) (h8 : A % 8 = 0) (hk : ¬ (tyC T (74 - A / 8)).1 = 0) : yn f A 8 0 = rc (tyC T (74 - A / 8)) := yn_id (fun i hi => by
  have h := (hs (A + i) (by omega)).1
  rw [show (A + i) / 8 = A / 8 by omega, show (A + i) % 8 = i by omega] at h
  exact h hk)
theorem ib_an {w m : Int32} (h : m &&& w = w) (hb : ib w b = true) : ib m b = true := by
  have e : ib (m &&& w) b = (ib m b && ib w b) := BitVec.getLsbD_and
  rw [h, hb, Bool.and_true] at e
  exact e.symm
/-- a byte that can be read -/
theorem ys_a (hrc : ∀ t : tyV, t.1 = 1 → rc t = t.2.1) (h : ys rc T a (f a)) {w : Int32} (ha : ty_able T (74 - a / 8) w) (hb : ib w (a % 8) = true) : f a = ty_sb T a := by
  unfold ty_sb
  rcases ha with k | ⟨k, g⟩
  · rw [if_pos k, h.1 (by rw [k]; decide), hrc _ k]
  · rw [if_neg (by rw [k]; decide)]
    exact h.2 k (ib_an g hb)
/-- a place in the stack -/
theorem bm64 (h1 : -512 ≤ pl.toInt) (h2 : pl.toInt + (d_nn c : Int) ≤ 0) (hr : jirem pl.toInt32 (d_by c) = 0) : (pl + 512).toNatClampNeg < 512 ∧ pl.toInt = ((pl + 512).toNatClampNeg : Int) - 512 ∧ sl pl.toInt32 = 74 - (pl + 512).toNatClampNeg / 8 ∧ (pl + 512).toNatClampNeg % 8 + d_nn c ≤ 8 ∧ ∀ b, b < 32 → ib (d_bm c pl.toInt32) b = decide ((pl + 512).toNatClampNeg % 8 ≤ b ∧ b < (pl + 512).toNatClampNeg % 8 + d_nn c) := by
  have n1 := (nn_by c).2.1
  have e := i64_of (v := pl) (by omega) (by omega)
  obtain ⟨a, a1, a2, a3, a4, a5⟩ := bm_of (c := c) (pl := pl.toInt32) (by omega) (by omega) hr
  have e5 : (pl + 512).toInt = pl.toInt + 512 := by
    rw [l_add (by omega) (by omega) (by decide) (by decide)]
    rfl
  have ea : (pl + 512).toNatClampNeg = a := by
    show (pl + 512).toInt.toNat = a
    omega
  rw [ea]
  exact ⟨a1, by omega, a3, a4, a5⟩
theorem ys_p (hrc : ∀ t : tyV, t.1 = 1 → rc t = t.2.1) (hs : ∀ a, a < 512 → ys rc T a (f a)) (h1 : -512 ≤ pl.toInt) (h2 : pl.toInt + (d_nn c : Int) ≤ 0) (hr : jirem pl.toInt32 (d_by c) = 0) (ha : ty_able T (sl pl.toInt32) (d_bm c pl.toInt32)) : yn f (pl + 512).toNatClampNeg (d_nn c) 0 = yn (ty_sb T) (pl + 512).toNatClampNeg (d_nn c) 0 := by
  obtain ⟨a1, a2, a3, a4, a5⟩ := bm64 h1 h2 hr
  generalize (pl + 512).toNatClampNeg = A at a1 a2 a3 a4 a5 ⊢
  rw [a3] at ha
  refine yn_c _ _ (fun i hi => ys_a hrc (hs _ (by omega)) (w := d_bm c pl.toInt32) ?_ ?_)
  · rw [show (A + i) / 8 = A / 8 by omega]
    exact ha
  · rw [show (A + i) % 8 = A % 8 + i by omega, a5 _ (by omega)]
    exact decide_eq_true (by omega)
/-- a slot is written -/
theorem ys_s (hrc : ∀ t : tyV, t.1 = 1 → rc t = t.2.1) (hs : ∀ a, a < 512 → ys rc T a (f a)) (h1 : -512 ≤ pl.toInt) (h2 : pl.toInt + (d_nn c : Int) ≤ 0) (hr : jirem pl.toInt32 (d_by c) = 0) (hx : x.1 = 1 ∨ (d_by c = 8 ∧ ¬ x.1 = 0)) : ∀ a, a < 512 → ys rc (ty_sto c T pl x) a (wrb f (pl + 512).toNatClampNeg (d_nn c) (rc x) a) := by
  obtain ⟨a1, a2, a3, a4, a5⟩ := bm64 h1 h2 hr
  intro a ha
  have ho := hs a ha
  have x0 : ¬ x.1 = 0 := by
    rcases hx with k | k
    · rw [k]; decide
    · exact k.2
  unfold ty_sto
  generalize (pl + 512).toNatClampNeg = A at a1 a2 a3 a4 a5 ⊢
  generalize d_bm c pl.toInt32 = W at a5 ⊢
  rw [a3]
  by_cases e8 : d_by c = 8
  · have n8 : d_nn c = 8 := by unfold d_nn; rw [e8]; rfl
    rw [if_pos e8]
    unfold ys wrb
    by_cases es : 74 - a / 8 = 74 - A / 8
    · have ea : a / 8 = A / 8 := by omega
      have e1 : fup (tyC T) (74 - A / 8) x (74 - a / 8) = x := by rw [es]; exact if_pos rfl
      rw [if_pos (by omega)]
      refine ⟨fun _ => ?_, fun z => absurd (show (fup (tyC T) (74 - A / 8) x (74 - a / 8)).1 = 0 from z) (by rw [e1]; exact x0)⟩
      show _ = yb (rc (fup (tyC T) (74 - A / 8) x (74 - a / 8))) (a % 8)
      rw [e1, show a - A = a % 8 by omega]
    · have e1 : fup (tyC T) (74 - A / 8) x (74 - a / 8) = tyC T (74 - a / 8) := if_neg es
      have e2 : fup (tyM T) (74 - A / 8) 0 (74 - a / 8) = tyM T (74 - a / 8) := if_neg es
      rw [if_neg (by omega)]
      show (¬ (fup (tyC T) (74 - A / 8) x (74 - a / 8)).1 = 0 → _ = yb (rc (fup (tyC T) (74 - A / 8) x (74 - a / 8))) (a % 8)) ∧ ((fup (tyC T) (74 - A / 8) x (74 - a / 8)).1 = 0 → ib (fup (tyM T) (74 - A / 8) 0 (74 - a / 8)) (a % 8) = true → _ = tyB T a)
      rw [e1, e2]
      exact ho
  · rw [if_neg e8]
    have x1 : x.1 = 1 := hx.elim id (fun z => absurd z.1 e8)
    rw [hrc x x1]
    obtain ⟨W2, hW2⟩ : ∃ W2, W2 = (if (tyC T (74 - A / 8)).1 = 0 then tyM T (74 - A / 8) ||| W else if (tyC T (74 - A / 8)).1 = 1 then 255 ||| W else W) := ⟨_, rfl⟩
    rw [← hW2]
    show (¬ (fup (tyC T) (74 - A / 8) (0, 0, 0, 0) (74 - a / 8)).1 = 0 → wrb f A (d_nn c) x.2.1 a = yb (rc (fup (tyC T) (74 - A / 8) (0, 0, 0, 0) (74 - a / 8))) (a % 8)) ∧ ((fup (tyC T) (74 - A / 8) (0, 0, 0, 0) (74 - a / 8)).1 = 0 → ib (fup (tyM T) (74 - A / 8) W2 (74 - a / 8)) (a % 8) = true → wrb f A (d_nn c) x.2.1 a = wrb (fun a => if 74 - a / 8 = 74 - A / 8 then ty_sb T a else tyB T a) A (d_nn c) x.2.1 a)
    unfold wrb
    by_cases es : 74 - a / 8 = 74 - A / 8
    · have ea : a / 8 = A / 8 := by omega
      have e1 : fup (tyC T) (74 - A / 8) (0, 0, 0, 0) (74 - a / 8) = (0, 0, 0, 0) := by rw [es]; exact if_pos rfl
      have e2 : fup (tyM T) (74 - A / 8) W2 (74 - a / 8) = W2 := by rw [es]; exact if_pos rfl
      rw [e1, e2]
      refine ⟨fun z => absurd rfl z, fun _ hb => ?_⟩
      by_cases er : A ≤ a ∧ a < A + d_nn c
      · rw [if_pos er, if_pos er]
      · rw [if_neg er, if_neg er]
        dsimp only
        rw [if_pos es]
        have wb : ib W (a % 8) = false := by
          rw [a5 _ (by omega)]
          exact decide_eq_false (by omega)
        rw [← es] at hW2
        unfold ty_sb
        by_cases k0 : (tyC T (74 - a / 8)).1 = 0
        · rw [if_pos k0] at hW2
          rw [hW2, ib_or, wb, Bool.or_false] at hb
          rw [if_neg (by rw [k0]; decide)]
          exact ho.2 k0 hb
        · by_cases k1 : (tyC T (74 - a / 8)).1 = 1
          · rw [if_pos k1, ho.1 k0, hrc _ k1]
          · rw [if_neg k0, if_neg k1] at hW2
            rw [hW2, wb] at hb
            exact absurd hb (by decide)
    · have e1 : fup (tyC T) (74 - A / 8) (0, 0, 0, 0) (74 - a / 8) = tyC T (74 - a / 8) := if_neg es
      have e2 : fup (tyM T) (74 - A / 8) W2 (74 - a / 8) = tyM T (74 - a / 8) := if_neg es
      rw [e1, e2, if_neg (by omega), if_neg (by omega)]
      dsimp only
      rw [if_neg es]
      exact ho
end HST
