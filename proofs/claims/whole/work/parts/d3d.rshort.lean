/-! PURE: the reference makes the shorter program. -/
def zE (k j f : Nat) : Prop := (k = 15 ∧ j = 5) ∨ (k = 13 ∧ j = 17) ∨ (k = 1 ∧ j = 0 ∧ (f = 15 ∨ f = 26))
def zG (k j _f : Nat) : Prop := k = 16 ∧ (j = 12 ∨ j = 2)
abbrev gS (M M1 : me_M) : Prop := gf zE zG M M1
def rzB (p : Nat → Int64) (n : Nat) (F : xF) (R : me_M) : Prop := ps_M R ∧ (∀ s, s < n → mL R 16 0 s = p s) ∧ (∀ t, t < n → mI R 15 3 t = b1 (f_sec p t)) ∧ rFac n R F
section ZR
variable {p : Nat → Int64} {F : xF} {n nm : Nat} {M N N1 : me_M}
theorem rzB_f (h : rzB p n F M) (g : gS M N) : rzB p n F N := by
  obtain ⟨h1, h2, h3, h4⟩ := h
  refine ⟨gf_ps g h1, fun s hs => ?_, fun t ht => ?_, fun s hs => ?_⟩
  · rw [g.2.2.2.2 16 0 s (by rintro ⟨_, z⟩; omega)]; exact h2 s hs
  · rw [g.2.2.2.1 15 3 t (by rintro (z | z | z) <;> omega)]; exact h3 t ht
  · rw [g.2.2.2.1 13 4 s (by rintro (z | z | z) <;> omega), g.2.2.2.1 13 5 s (by rintro (z | z | z) <;> omega), g.2.2.2.1 15 1 s (by rintro (z | z | z) <;> omega), g.2.2.2.1 15 2 s (by rintro (z | z | z) <;> omega), g.2.2.2.2 16 3 s (by rintro ⟨_, z⟩; omega)]
    exact h4 s hs
theorem gS_5 {f : Nat} {v : Int32} : gS M (wI M 15 5 f v) := gf_I (Or.inl ⟨rfl, rfl⟩)
theorem gS_17 {f : Nat} {v : Int32} : gS M (wI M 13 17 f v) := gf_I (Or.inr (Or.inl ⟨rfl, rfl⟩))
theorem gS_L {j f : Nat} {v : Int64} (h : j = 12 ∨ j = 2) : gS M (wL M 16 j f v) := gf_L ⟨rfl, h⟩
theorem made_z {c x : Int64} (h : x = x.toInt32.toInt64) : f_M_made 183 (d_to c) x.toInt32 = some (z_mv c x) := by
  unfold f_M_made z_mv
  rw [st_eq, ← h]
  rfl
theorem op_5 {c : Int64} : d_op c = 5 ↔ d_fam c = 7 := by
  obtain ⟨op, hop, eop⟩ := fam_c c
  have := (show ∀ n, n < 256 → (nI n = 5 ↔ (kd (nI n)).1 = 7) by decide +kernel) op hop
  rw [← eop] at this
  exact this
/-- the first pass -/
theorem rza (hn : n ≤ 2000) : ∀ (k y fu : Nat) (N : me_M), y + k = n → k < fu → gS M N → rzB p n F N → (∀ t, t < y → mI N 15 5 t = b1 (z_st p F t) ∧ mL N 16 12 t = z_bc p F t) → ∃ N1 fu1, f_M_shorten_l2 0 (nI n) fu N (nI y) = f_M_shorten_l2 0 (nI n) (fu1 + 1) N1 (nI n) ∧ gS M N1 ∧ rzB p n F N1 ∧ ∀ t, t < n → mI N1 15 5 t = b1 (z_st p F t) ∧ mL N1 16 12 t = z_bc p F t := by
  intro k
  induction k with
  | zero =>
    intro y fu N e hf g hB hs
    obtain ⟨fu, rfl⟩ : ∃ f, fu = f + 1 := ⟨fu - 1, by omega⟩
    rw [show y = n by omega] at hs ⊢
    exact ⟨N, fu, rfl, g, hB, hs⟩
  | succ k ih =>
    intro y fu N e hf g hB hs
    obtain ⟨fu, rfl⟩ : ∃ f, fu = f + 1 := ⟨fu - 1, by omega⟩
    have hy : y < n := by omega
    obtain ⟨h1, h2, h3, h4⟩ := hB
    obtain ⟨f1, f2, f3, f4, f5⟩ := h4 y hy
    rw [f_M_shorten_l2, if_neg (show ¬ nI n ≤ nI y from fun z => by have := (nI_lei (by omega) (by omega)).mp z; omega), rs_13 h1, bd_some, rz_16_0 h1, gd_pos (ix_ok (by omega) (by decide)), nI_tn (by omega), h2 y hy, st_eq, rs_32 h1, bd_some, rz_15_3 h1, gd_pos (ix_t (by omega) (by decide)), h3 y hy]
    have row : ∀ N2, gS N N2 → mI N2 15 5 y = b1 (z_st p F y) → mL N2 16 12 y = z_bc p F y → (∀ t, t < y → mI N2 15 5 t = mI N 15 5 t ∧ mL N2 16 12 t = mL N 16 12 t) → ∃ N1 fu1, f_M_shorten_l2 0 (nI n) fu N2 (nI y + 1) = f_M_shorten_l2 0 (nI n) (fu1 + 1) N1 (nI n) ∧ gS M N1 ∧ rzB p n F N1 ∧ ∀ t, t < n → mI N1 15 5 t = b1 (z_st p F t) ∧ mL N1 16 12 t = z_bc p F t := by
      intro N2 g2 a3 a4 a5
      rw [nI_s]
      refine ih (y + 1) fu N2 (by omega) (by omega) (gf_trans g g2) (rzB_f ⟨h1, h2, h3, h4⟩ g2) (fun t ht => ?_)
      by_cases et : t = y
      · rw [et]; exact ⟨a3, a4⟩
      · rw [(a5 t (by omega)).1, (a5 t (by omega)).2]; exact hs t (by omega)
    -- y5 is the instruction, or 0
    have main : ∀ y5 : Int32, (y5 = 11 ↔ (¬ f_sec p y ∧ d_fam (p y) = 8)) → f_M_isArithmetic y5 = some (b1 (¬ f_sec p y ∧ d_fam (p y) = 6)) → ∃ N1 fu1, f_M_shorten_b34 (f_M_shorten_l2 0 (nI n) fu) 0 (nI n) N (nI y) (p y) y5 = f_M_shorten_l2 0 (nI n) (fu1 + 1) N1 (nI n) ∧ gS M N1 ∧ rzB p n F N1 ∧ ∀ t, t < n → mI N1 15 5 t = b1 (z_st p F t) ∧ mL N1 16 12 t = z_bc p F t := by
      intro y5 h11 har
      have b168 : ∀ N2, gS N N2 → mI N2 15 5 y = b1 (z_st p F y) → (∀ t, t < y → mI N2 15 5 t = mI N 15 5 t ∧ mL N2 16 12 t = mL N 16 12 t) → (¬ (¬ f_sec p y ∧ d_fam (p y) = 6 ∧ F.2.2.2.1 y = 1 ∧ F.2.2.2.2 y = (F.2.2.2.2 y).toInt32.toInt64) → mL N2 16 12 y = z_bc p F y) → ∃ N1 fu1, f_M_shorten_b168 (f_M_shorten_l2 0 (nI n) fu) 0 (nI n) N2 (nI y) (p y) y5 = f_M_shorten_l2 0 (nI n) (fu1 + 1) N1 (nI n) ∧ gS M N1 ∧ rzB p n F N1 ∧ ∀ t, t < n → mI N1 15 5 t = b1 (z_st p F t) ∧ mL N1 16 12 t = z_bc p F t := by
        intro N2 g2 a3 a5 a4
        have B2 := rzB_f ⟨h1, h2, h3, h4⟩ g2
        obtain ⟨_, _, _, e4, e5⟩ := B2.2.2.2 y hy
        unfold f_M_shorten_b168
        rw [har, bd_some]
        by_cases c1 : (¬ f_sec p y ∧ d_fam (p y) = 6)
        · rw [if_neg (b1_n0 c1), rs_30 B2.1, bd_some, rz_13_5 B2.1, gd_pos (ix_ok (by omega) (by decide)), nI_tn (by omega), e4]
          by_cases c2 : F.2.2.2.1 y = 1
          · rw [if_pos c2, rs_31 B2.1, bd_some, rz_16_3 B2.1, gd_pos (ix_t (by omega) (by decide)), e5 c2]
            by_cases c3 : F.2.2.2.2 y = (F.2.2.2.2 y).toInt32.toInt64
            · rw [if_pos c3, rs_72 B2.1, bd_some, r_to, bd_some, made_z c3, bd_some, rz_16_12 B2.1, gd_pos (ix_t (by omega) (by decide)), st_eq]
              refine row _ (gf_trans g2 (gS_L (Or.inl rfl))) (by rw [pI_L]; exact a3) ?_ (fun t ht => ?_)
              · rw [pL_same]
                unfold z_bc
                rw [ic_f (fun z => by have q := z.2.1; rw [c1.2] at q; exact absurd q (by decide)), ic_t ⟨c1.1, c1.2, c2, c3⟩]
              · rw [pI_L, pL_place (by omega)]; exact a5 t ht
            · rw [if_neg c3]
              exact row N2 g2 a3 (a4 (fun z => c3 z.2.2.2)) a5
          · rw [if_neg c2]
            exact row N2 g2 a3 (a4 (fun z => c2 z.2.2.1)) a5
        · rw [if_pos (b1_f c1)]
          exact row N2 g2 a3 (a4 (fun z => c1 ⟨z.1, z.2.1⟩)) a5
      have b120 : ∀ v : Prop, (v ↔ z_st p F y) → ∃ N1 fu1, f_M_shorten_b120 (f_M_shorten_l2 0 (nI n) fu) 0 (nI n) N (nI y) (p y) y5 (b1 v) (nI y) 5 = f_M_shorten_l2 0 (nI n) (fu1 + 1) N1 (nI n) ∧ gS M N1 ∧ rzB p n F N1 ∧ ∀ t, t < n → mI N1 15 5 t = b1 (z_st p F t) ∧ mL N1 16 12 t = z_bc p F t := by
        intro v hv
        unfold f_M_shorten_b120
        rw [rz_15_5 h1, gd_pos (ix_ok (by omega) (by decide)), nI_tn (by omega), nar_b1, st_eq, rs_72 h1, bd_some, rz_16_12 h1, gd_pos (ix_t (by omega) (by decide)), st_eq]
        have gA : gS N (wL (wI N 15 5 y (b1 v)) 16 12 y (p y)) := gf_trans gS_5 (gS_L (Or.inl rfl))
        have s5 : mI (wL (wI N 15 5 y (b1 v)) 16 12 y (p y)) 15 5 y = b1 (z_st p F y) := by rw [pI_L, pI_same, b1_c hv]
        have so : ∀ t, t < y → mI (wL (wI N 15 5 y (b1 v)) 16 12 y (p y)) 15 5 t = mI N 15 5 t ∧ mL (wL (wI N 15 5 y (b1 v)) 16 12 y (p y)) 16 12 t = mL N 16 12 t := fun t ht => by
          rw [pI_L, pI_place (by omega), pL_place (by omega), pL_I]
          exact ⟨rfl, rfl⟩
        have plain : ¬ (¬ f_sec p y ∧ d_fam (p y) = 8 ∧ F.2.1 y ∧ ¬ F.2.2.1 y) → ∃ N1 fu1, f_M_shorten_b168 (f_M_shorten_l2 0 (nI n) fu) 0 (nI n) (wL (wI N 15 5 y (b1 v)) 16 12 y (p y)) (nI y) (p y) y5 = f_M_shorten_l2 0 (nI n) (fu1 + 1) N1 (nI n) ∧ gS M N1 ∧ rzB p n F N1 ∧ ∀ t, t < n → mI N1 15 5 t = b1 (z_st p F t) ∧ mL N1 16 12 t = z_bc p F t := by
          intro nj
          refine b168 _ gA s5 so (fun n6 => ?_)
          rw [pL_same]
          unfold z_bc
          rw [ic_f nj, ic_f n6]
        by_cases c11 : (¬ f_sec p y ∧ d_fam (p y) = 8)
        · rw [if_pos (h11.mpr c11), rs_28 h1, bd_some, rz_15_1 h1, gd_pos (ix_t (by omega) (by decide)), pI_L, wI_j (by decide), f2]
          by_cases w : F.2.1 y
          · rw [if_neg (b1_n0 w), rs_29 h1, bd_some, rz_15_2 h1, gd_pos (ix_t (by omega) (by decide)), wI_j (by decide), f3]
            by_cases f : F.2.2.1 y
            · rw [if_neg (b1_n0 f)]
              exact plain (fun z => z.2.2.2 f)
            · rw [if_pos (b1_f f), st_eq]
              refine b168 _ (gf_trans gA (gS_L (Or.inl rfl))) (by rw [pI_L]; exact s5) (fun t ht => by rw [pI_L, pL_place (by omega)]; exact so t ht) (fun _ => ?_)
              rw [pL_same]
              unfold z_bc
              rw [ic_t ⟨c11.1, c11.2, w, f⟩]
          · rw [if_pos (b1_f w)]
            exact plain (fun z => w z.2.2.1)
        · rw [if_neg (fun z => c11 (h11.mp z))]
          exact plain (fun z => c11 ⟨z.1, z.2.1⟩)
      have b78 : ∀ v : Prop, (v ↔ 0 < z_see p F y) → ∃ N1 fu1, f_M_shorten_b78 (f_M_shorten_l2 0 (nI n) fu) 0 (nI n) N (nI y) (p y) y5 (b1 v) = f_M_shorten_l2 0 (nI n) (fu1 + 1) N1 (nI n) ∧ gS M N1 ∧ rzB p n F N1 ∧ ∀ t, t < n → mI N1 15 5 t = b1 (z_st p F t) ∧ mL N1 16 12 t = z_bc p F t := by
        intro v hv
        unfold f_M_shorten_b78 f_M_shorten_b119 f_M_shorten_b115
        rw [rs_71 h1, bd_some]
        have b0 := b120 False
        have b1'' := b120 True
        rw [b1_f id] at b0
        rw [b1_t trivial] at b1''
        by_cases c : v
        · rw [if_neg (b1_n0 c)]
          by_cases c11 : (¬ f_sec p y ∧ d_fam (p y) = 8)
          · rw [if_pos (h11.mpr c11), rs_29 h1, bd_some, rz_15_2 h1, gd_pos (ix_ok (by omega) (by decide)), nI_tn (by omega), f3]
            by_cases f : F.2.2.1 y
            · rw [if_neg (b1_n0 f), rs_28 h1, bd_some, rz_15_1 h1, gd_pos (ix_t (by omega) (by decide)), f2]
              by_cases w : F.2.1 y
              · rw [if_neg (b1_n0 w)]
                exact b1'' ⟨fun _ => ⟨hv.mp c, fun z => z.2.2.2 w⟩, fun _ => trivial⟩
              · rw [if_pos (b1_f w)]
                exact b0 ⟨fun z => z.elim, fun z => z.2 ⟨c11.1, c11.2, f, w⟩⟩
            · rw [if_pos (b1_f f)]
              exact b1'' ⟨fun _ => ⟨hv.mp c, fun z => f z.2.2.1⟩, fun _ => trivial⟩
          · rw [if_neg (fun z => c11 (h11.mp z))]
            exact b1'' ⟨fun _ => ⟨hv.mp c, fun z => c11 ⟨z.1, z.2.1⟩⟩, fun _ => trivial⟩
        · rw [if_pos (b1_f c)]
          exact b0 ⟨fun z => z.elim, fun z => c (hv.mpr z.1)⟩
      have c0 := b78 False
      have c1 := b78 True
      rw [b1_f id] at c0
      rw [b1_t trivial] at c1
      unfold f_M_shorten_b34
      rw [rs_32 h1, bd_some, rz_15_3 h1, gd_pos (ix_ok (by omega) (by decide)), nI_tn (by omega), h3 y hy]
      by_cases sy : f_sec p y
      · obtain ⟨y', ey⟩ : ∃ y', y = y' + 1 := by
          cases y with
          | zero => exact absurd sy (fun z => z)
          | succ y' => exact ⟨y', rfl⟩
        have em : nI y - 1 = nI y' := by rw [ey, ← nI_s, Int32.add_sub_cancel]
        have see : z_see p F y = F.1 y' := by unfold z_see; rw [ic_t sy, show y - 1 = y' by omega]
        rw [if_neg (b1_n0 sy), rs_27 h1, bd_some, em, rz_13_4 h1, gd_pos (ix_ok (by omega) (by decide)), nI_tn (by omega), (h4 y' (by omega)).1]
        by_cases v0 : F.1 y' ≤ 0
        · rw [if_pos v0]
          exact c0 ⟨fun z => z.elim, fun z => by rw [see] at z; exact (nlt_le.mpr v0) z⟩
        · rw [if_neg v0]
          refine c1 ⟨fun _ => ?_, fun _ => trivial⟩
          rw [see]
          rw [Int32.le_iff_toInt_le] at v0
          rw [Int32.lt_iff_toInt_lt]
          omega
      · have see : z_see p F y = F.1 y := ic_f sy
        rw [if_pos (b1_f sy), rs_27 h1, bd_some, rz_13_4 h1, gd_pos (ix_t (by omega) (by decide)), f1]
        by_cases v0 : F.1 y ≤ 0
        · rw [if_pos v0]
          exact c0 ⟨fun z => z.elim, fun z => by rw [see] at z; exact (nlt_le.mpr v0) z⟩
        · rw [if_neg v0]
          refine c1 ⟨fun _ => ?_, fun _ => trivial⟩
          rw [see]
          rw [Int32.le_iff_toInt_le] at v0
          rw [Int32.lt_iff_toInt_lt]
          omega
    by_cases sy : f_sec p y
    · rw [if_neg (b1_n0 sy)]
      refine main 0 ⟨fun z => absurd z (by decide), fun z => absurd sy z.1⟩ ?_
      rw [b1_f (fun z => z.1 sy)]
      rfl
    · rw [if_pos (b1_f sy), r_op, bd_some, r_ins, bd_some]
      refine main _ ⟨fun z => ⟨sy, kri_f.2.2.1.mp z⟩, fun z => kri_f.2.2.1.mpr z.2⟩ ?_
      obtain ⟨op, hop, eop⟩ := fam_c (p y)
      have := (show ∀ n, n < 256 → (f_M_isArithmetic (k_ri (nI n)) = some (if (kd (nI n)).1 = 6 then 1 else 0)) by decide +kernel) op hop
      rw [← eop] at this
      rw [this]
      by_cases h6 : d_fam (p y) = 6
      · rw [if_pos (show (kd (d_op (p y))).1 = 6 from h6), b1_t ⟨sy, h6⟩]
      · rw [if_neg (show ¬ (kd (d_op (p y))).1 = 6 from h6), b1_f (fun z => h6 z.2)]
end ZR
