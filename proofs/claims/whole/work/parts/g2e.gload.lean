/-! PURE: loads and stores do what the abstract ones tell. -/
section GE
variable {nm : Nat} {en : Nat → Nat} {vb : Int32 → Int32} {σ : sT} {T : tyT} {nu : Int32 → Int64} {mu : Int32 → Prop} {x p : sC} {t : tyV} {c : Int64} {d i : Nat} {ids : Int32} {q : sT × Int32}
theorem b1_of {P : Prop} (h : ¬ b1 P = 0) : P := by
  by_cases g : P
  · exact g
  · exact absurd (b1_f g) h
theorem l16 {pl : Int32} : (16 : Int64) ≤ pl.toInt64 ↔ 16 ≤ pl := by
  rw [l_le, i32_le, l_of]
  exact Iff.rfl
theorem rd_ok (h : gam nm en σ T nu mu) (ht : d_ti c < 11) {k pl : Int32} (hk : ¬ k = 2) (ho : s_rd c k pl σ ids = .ok q) : gam nm en q.1 (ty_set T (d_ti c) (ty_n (ty_get c T t))) nu mu := by
  unfold s_rd at ho
  rw [if_neg (fun z => hk z.1)] at ho
  cases ho
  exact gam_set h ht (gm_1 rfl ⟨rfl, get_gN⟩)
theorem load_ok (hg : s_gd nm σ) (hfr : s_fr d σ) (h : gam nm en σ T nu mu) (hZ : uZ (tyW T) ≤ 2000) (hvb : ∀ m, m < nm → 0 ≤ (vb (nI m)).toInt ∧ (vb (nI m)).toInt ≤ 64) (ht : d_ti c < 11) (hf : d_fi c < 11) (f2 : d_fam c = 2) (ho : s_mem c vb σ ids = .ok q) : ∃ T1, ty_load c vb T = some T1 ∧ tyW T1 = tyW T ∧ gam nm en q.1 T1 nu mu := by
  unfold s_mem at ho
  rw [if_pos f2] at ho
  by_cases b1' : b1 (c_ptr (σ (d_fi c))) = 0
  · rw [if_pos b1'] at ho; cases ho
  rw [if_neg b1'] at ho
  by_cases b2' : b1 (s_isp c vb (σ (d_fi c)) (cPl (σ (d_fi c)) + d_off c)) = 0
  · rw [if_pos b2'] at ho; cases ho
  rw [if_neg b2', if_pos f2] at ho
  have hp := b1_of b1'
  have hi := b1_of b2'
  clear b1' b2'
  have hc := h.2.2.1 (d_fi c) (by omega)
  have wf := hg (d_fi c) (by omega)
  obtain ⟨hin, he⟩ := gm_in (T := T) wf (hfr (d_fi c) (by omega)) hc h.2.1 hZ hvb hp hi
  have e16 := off_b c
  have w1 := wf.1
  have eP : (cPl (σ (d_fi c)) + d_off c).toInt = (cPl (σ (d_fi c))).toInt + (d_off c).toInt := add_b (by omega) (by omega) (by omega) (by omega)
  unfold ty_load
  rw [ic_t hin]
  clear hin
  unfold s_load at ho
  generalize ty_pl c (tyC T (d_fi c)) = L at he ⊢
  generalize (cPl (σ (d_fi c)) + d_off c) = pl at hi ho he eP
  rcases hp with k | k | k | k
  · obtain ⟨a1, a2⟩ := hc.2.1 k
    have eL := he (Or.inl k)
    rw [k, if_neg (by decide)] at ho
    rcases hi with z | z | z | z
    · obtain ⟨_, _, _, _, z5, z6⟩ := z
      rw [if_pos a1, eL, Int32.toInt32_toInt64, if_pos ⟨z5, z6.imp l16.mpr id⟩]
      unfold s_rd at ho
      cases ho
      refine ⟨_, rfl, rfl, gam_set h ht ?_⟩
      by_cases g : 16 ≤ pl
      · rw [if_neg (fun z => z.2 g), if_pos (l16.mpr g)]
        exact gm_1 rfl ⟨rfl, get_gN⟩
      · rw [if_pos ⟨rfl, g⟩, if_neg (fun z => g (l16.mp z))]
        by_cases g0 : pl = 0
        · rw [if_pos g0, g0, if_pos (by decide)]
          refine gm_4 rfl ⟨rfl, ?_, ?_, fun z => absurd z (by decide)⟩
          · show (0 : Int64) = nu 0 + (0 : Int32).toInt64
            rw [h.1]; rfl
          · show gN (fn_ex 0) (nu 0)
            rw [h.1]; exact ex_gN
        · rw [if_neg g0, if_neg (fun z => g0 (by
            have := congrArg Int64.toInt z
            rw [l_of] at this
            exact Int32.toInt_inj.mp this))]
          exact gm_5 rfl ⟨rfl, rfl⟩
    · rw [k] at z; exact absurd z.1 (by decide)
    · rw [k] at z; exact absurd z.1 (by decide)
    · exact absurd k z.1
  · obtain ⟨a1, a2⟩ := hc.2.2.1 k
    have eL := he (Or.inr k)
    obtain ⟨p1, p2⟩ := isp_st (by omega) (by omega) hi k
    rw [k, if_pos rfl] at ho
    rcases hi with z | z | z | z
    · rw [k] at z; exact absurd z.1 (by decide)
    · obtain ⟨_, _, _, z5⟩ := z
      rw [if_neg (by rw [a1]; decide), if_pos a1, eL, Int32.toInt32_toInt64, if_pos z5]
      obtain ⟨a, m1, m2, m3, m4, m5⟩ := bm_of p1 p2 z5
      have n8 := nn_by c
      have sl1 : 11 ≤ sl pl ∧ sl pl < 75 := by omega
      have hs := h.2.2.1 (sl pl) sl1.2
      have hss := h.2.2.2 (sl pl) sl1.1 sl1.2
      by_cases g : ¬ cK (σ (sl pl)) = 0 ∧ d_by c = 8
      · rw [if_pos g] at ho
        cases ho
        rw [if_pos ⟨hs.2.2.2.2.2.2.2.2 g.1, g.2⟩]
        refine ⟨_, rfl, rfl, gam_set h ht ?_⟩
        unfold ty_nz
        by_cases n1 : (tyC T (sl pl)).1 = 1
        · rw [if_pos n1]
          by_cases k1 : cK (σ (sl pl)) = 1
          · rw [← (hs.1 k1).1]; exact hs
          · by_cases k8 : cK (σ (sl pl)) = 8
            · refine gm_8 k8 ?_
              rcases hs.2.2.2.2.2.2.2.1 k8 with y | y
              · rw [y.2.1] at n1; exact absurd n1 (by decide)
              · exact Or.inr ⟨y.1, by rw [y.2]⟩
            · refine ⟨fun z => absurd z k1, fun z => ?_, fun z => ?_, fun z => ?_, fun z => ?_, fun z => ?_, fun z => ?_, fun z => absurd z k8, fun _ => (show ¬ (1 : Int32) = 0 by decide)⟩
              · have := (hs.2.1 z).1; rw [n1] at this; exact absurd this (by decide)
              · have := (hs.2.2.1 z).1; rw [n1] at this; exact absurd this (by decide)
              · have := (hs.2.2.2.1 z).1; rw [n1] at this; exact absurd this (by decide)
              · have := (hs.2.2.2.2.1 z).1; rw [n1] at this; exact absurd this (by decide)
              · have := (hs.2.2.2.2.2.1 z).1; rw [n1] at this; exact absurd this (by decide)
              · have := (hs.2.2.2.2.2.2.1 z).1; rw [n1] at this; exact absurd this (by decide)
        · rw [if_neg n1]; exact hs
      · rw [if_neg g] at ho
        by_cases g2 : c_able (σ (sl pl)) (d_bm c pl)
        · rw [if_pos g2] at ho
          have ab : ty_able T (sl pl) (d_bm c pl) := able_ok hs hss (fun b hb e => by
            rw [m5 b hb] at e
            have := of_decide_eq_true e
            omega) (b0 := a % 8) (by omega) (by rw [m5 _ (by omega)]; exact decide_eq_true ⟨Nat.le_refl _, by omega⟩) g2
          have num := rd_ok (t := tyC T (d_fi c)) h ht (by decide) ho
          by_cases g3 : ¬ (tyC T (sl pl)).1 = 0 ∧ d_by c = 8
          · rw [if_pos g3]
            refine ⟨_, rfl, rfl, ?_⟩
            have n1 : (tyC T (sl pl)).1 = 1 := by
              rcases ab with y | y
              · exact y
              · exact absurd y.1 g3.1
            unfold ty_nz
            rw [if_pos n1]
            unfold s_rd at ho
            rw [if_neg (fun z => absurd z.1 (by decide))] at ho
            cases ho
            refine gam_set h ht (gm_1 rfl ⟨rfl, ?_⟩)
            show gN (fn_rd (d_by c)) _
            rw [g3.2]
            unfold fn_rd
            rw [if_pos (by decide)]
            exact any_gN
          · rw [if_neg g3, ic_t ab]
            exact ⟨_, rfl, rfl, num⟩
        · rw [if_neg g2] at ho; cases ho
    · rw [k] at z; exact absurd z.1 (by decide)
    · exact absurd k z.2.1
  · obtain ⟨a1, _⟩ := hc.2.2.2.1 k
    rw [k, if_neg (by decide)] at ho
    rw [if_neg (by rw [a1]; decide), if_neg (by rw [a1]; decide)]
    exact ⟨_, rfl, rfl, rd_ok h ht (by decide) ho⟩
  · obtain ⟨a1, _⟩ := hc.2.2.2.2.2.2.1 k
    rw [k, if_neg (by decide)] at ho
    rw [if_neg (by rw [a1]; decide), if_neg (by rw [a1]; decide)]
    exact ⟨_, rfl, rfl, rd_ok h ht (by decide) ho⟩
theorem sto_ok (h : gam nm en σ T nu mu) {pl : Int32} {y : tyV} {a : Nat} (ha : a < 512) (hs : sl pl = 74 - a / 8) (hm : ∀ b, b < 32 → ib (d_bm c pl) b = decide (a % 8 ≤ b ∧ b < a % 8 + d_nn c)) (hx : gm_c nm en (uZ (tyW T)) nu mu x y) (h0 : ¬ cK x = 0) : gam nm en (s_store c pl x σ) (ty_sto c T pl.toInt64 y) nu mu := by
  have sl1 : 11 ≤ sl pl ∧ sl pl < 75 := by omega
  unfold s_store ty_sto
  rw [Int32.toInt32_toInt64]
  by_cases e8 : d_by c = 8
  · rw [if_pos e8, if_pos e8]
    exact gam_sl h sl1.1 hx (fun z => absurd z h0)
  · rw [if_neg e8, if_neg e8]
    have hc := h.2.2.1 (sl pl) sl1.2
    have hss := h.2.2.2 (sl pl) sl1.1 sl1.2
    refine gam_sl h sl1.1 (gm_0 rfl) ?_
    intro _ b hb hbit
    refine Or.inl ⟨rfl, ?_⟩
    have hbit2 : ib (if cK (σ (sl pl)) = 0 then cW (σ (sl pl)) ||| d_bm c pl else if cK (σ (sl pl)) = 1 then 255 ||| d_bm c pl else d_bm c pl) b = true := hbit
    have t255 : ∀ b, b < 8 → ib 255 b = true := by decide
    have inm : ib (d_bm c pl) b = true → ib (if (tyC T (sl pl)).1 = 0 then tyM T (sl pl) ||| d_bm c pl else if (tyC T (sl pl)).1 = 1 then 255 ||| d_bm c pl else d_bm c pl) b = true := by
      intro z
      split
      · rw [ib_or, z, Bool.or_true]
      · split
        · rw [ib_or, z, Bool.or_true]
        · exact z
    by_cases k0 : cK (σ (sl pl)) = 0
    · rw [if_pos k0, ib_or, Bool.or_eq_true] at hbit2
      rcases hbit2 with z | z
      · rcases hss k0 b hb z with y | y
        · rw [if_pos y.1, ib_or, y.2, Bool.true_or]
        · rw [if_neg (by rw [y]; decide), if_pos y, ib_or, t255 b hb, Bool.true_or]
      · exact inm z
    · rw [if_neg k0] at hbit2
      by_cases k1 : cK (σ (sl pl)) = 1
      · have n1 := gm_k1 hc k1
        rw [if_neg (by rw [n1]; decide), if_pos n1, ib_or, t255 b hb, Bool.true_or]
      · rw [if_neg k1] at hbit2
        exact inm hbit2
theorem put_ok (hg : s_gd nm σ) (hfr : s_fr d σ) (h : gam nm en σ T nu mu) (hZ : uZ (tyW T) ≤ 2000) (hvb : ∀ m, m < nm → 0 ≤ (vb (nI m)).toInt ∧ (vb (nI m)).toInt ≤ 64) (ht : d_ti c < 11) (hf : d_fi c < 11) (f2 : ¬ d_fam c = 2) (hun : ¬ cK (s_by c σ) = 0) (ho : s_mem c vb σ ids = .ok q) : ∃ T1, ty_put c vb T = some T1 ∧ uZ (tyW T1) = uZ (tyW T) ∧ gam nm en q.1 T1 nu mu := by
  unfold s_mem at ho
  rw [if_neg f2] at ho
  by_cases b1' : b1 (c_ptr (σ (d_ti c))) = 0
  · rw [if_pos b1'] at ho; cases ho
  rw [if_neg b1'] at ho
  by_cases b2' : b1 (s_isp c vb (σ (d_ti c)) (cPl (σ (d_ti c)) + d_off c)) = 0
  · rw [if_pos b2'] at ho; cases ho
  rw [if_neg b2', if_neg f2] at ho
  have hp := b1_of b1'
  have hi := b1_of b2'
  clear b1' b2'
  have hc := h.2.2.1 (d_ti c) (by omega)
  have hby := gm_by (c := c) h hf
  have wf := hg (d_ti c) (by omega)
  obtain ⟨hin, he⟩ := gm_in (T := T) wf (hfr (d_ti c) (by omega)) hc h.2.1 hZ hvb hp hi
  have e16 := off_b c
  have w1 := wf.1
  have eP : (cPl (σ (d_ti c)) + d_off c).toInt = (cPl (σ (d_ti c))).toInt + (d_off c).toInt := add_b (by omega) (by omega) (by omega) (by omega)
  unfold s_put at ho
  by_cases g : ¬ cK (s_by c σ) = 1 ∧ ¬ (d_fam c = 3 ∧ cK (σ (d_ti c)) = 3 ∧ d_by c = 8)
  · rw [if_pos g] at ho; cases ho
  rw [if_neg g] at ho
  have okb : (ty_op c T).1 = 1 ∨ (d_fam c = 3 ∧ (tyC T (d_ti c)).1 = 3 ∧ d_by c = 8) := by
    by_cases z : cK (s_by c σ) = 1
    · exact Or.inl (gm_k1 hby z)
    · by_cases y : d_fam c = 3 ∧ cK (σ (d_ti c)) = 3 ∧ d_by c = 8
      · exact Or.inr ⟨y.1, (hc.2.2.1 y.2.1).1, y.2.2⟩
      · exact absurd ⟨z, y⟩ g
  unfold ty_put
  rw [ic_t ⟨hin, okb⟩]
  clear hin
  generalize ty_pl c (tyC T (d_ti c)) = L at he ⊢
  generalize (cPl (σ (d_ti c)) + d_off c) = pl at hi ho he eP
  rcases hp with k | k | k | k
  · rcases hi with z | z | z | z
    · exact absurd z.2.1 f2
    · rw [k] at z; exact absurd z.1 (by decide)
    · rw [k] at z; exact absurd z.1 (by decide)
    · exact absurd k z.1
  · obtain ⟨a1, a2⟩ := hc.2.2.1 k
    have eL := he (Or.inr k)
    obtain ⟨p1, p2⟩ := isp_st (by omega) (by omega) hi k
    rw [k, if_pos rfl] at ho
    rcases hi with z | z | z | z
    · rw [k] at z; exact absurd z.1 (by decide)
    · obtain ⟨_, _, _, z5⟩ := z
      rw [if_pos a1, eL, Int32.toInt32_toInt64, if_pos z5]
      obtain ⟨a, m1, m2, m3, m4, m5⟩ := bm_of p1 p2 z5
      have n8 := nn_by c
      have sl1 : 11 ≤ sl pl ∧ sl pl < 75 := by omega
      have hs := h.2.2.1 (sl pl) sl1.2
      have hss := h.2.2.2 (sl pl) sl1.1 sl1.2
      have zz : ∀ y, uZ (tyW (ty_sto c T pl.toInt64 y)) = uZ (tyW T) := by
        intro y
        unfold ty_sto
        split <;> rfl
      by_cases f5 : d_fam c = 5
      · rw [if_pos f5] at ho
        unfold s_addTo at ho
        by_cases g1 : ¬ cK (σ (sl pl)) = 0 ∧ ¬ cK (σ (sl pl)) = 1 ∧ d_by c = 8
        · rw [if_pos g1] at ho; cases ho
        rw [if_neg g1] at ho
        by_cases g2 : c_able (σ (sl pl)) (d_bm c pl)
        · rw [if_pos g2] at ho
          cases ho
          have ab : ty_able T (sl pl) (d_bm c pl) := able_ok hs hss (fun b hb e => by
            rw [m5 b hb] at e
            have := of_decide_eq_true e
            omega) (b0 := a % 8) (by omega) (by rw [m5 _ (by omega)]; exact decide_eq_true ⟨Nat.le_refl _, by omega⟩) g2
          rw [ic_f (fun z => z.2 ab), if_pos f5]
          exact ⟨_, rfl, zz _, sto_ok h m1 m3 m5 (gm_1 rfl ⟨rfl, any_gN⟩) (by decide)⟩
        · rw [if_neg g2] at ho; cases ho
      · rw [if_neg f5] at ho
        cases ho
        rw [ic_f (fun z => f5 z.1), if_neg f5]
        exact ⟨_, rfl, zz _, sto_ok h m1 m3 m5 hby hun⟩
    · rw [k] at z; exact absurd z.1 (by decide)
    · exact absurd k z.2.1
  · obtain ⟨a1, _⟩ := hc.2.2.2.1 k
    rw [k, if_neg (by decide)] at ho
    cases ho
    have n5 : ¬ d_fam c = 5 := by
      rcases hi with z | z | z | z
      · rw [k] at z; exact absurd z.1 (by decide)
      · rw [k] at z; exact absurd z.1 (by decide)
      · exact z.2.1
      · exact absurd k z.2.2.1
    rw [if_neg (by rw [a1]; decide), if_pos ⟨a1, n5⟩]
    exact ⟨_, rfl, rfl, h⟩
  · obtain ⟨a1, _⟩ := hc.2.2.2.2.2.2.1 k
    rw [k, if_neg (by decide)] at ho
    cases ho
    rw [if_neg (by rw [a1]; decide), if_neg (by rw [a1]; exact fun z => absurd z.1 (by decide)), if_pos a1]
    exact ⟨_, rfl, rfl, h⟩
end GE
