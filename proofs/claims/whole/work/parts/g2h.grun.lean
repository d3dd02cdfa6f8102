/-! PURE: a run of what was accepted goes on to its end. -/
section GH
variable {p : Nat → Int64} {n nm : Nat} {sec tb : Nat → Prop} {en : Nat → Nat} {kb vb : Int32 → Int32} {F : xF} {σ k : sT} {T : tyT} {nu : Int32 → Int64} {mu : Int32 → Prop} {x y : fn_N} {t : tyV} {c w : Int64} {d i s : Nat}
theorem rel_sd (hg : s_gd nm σ) (h : gam nm en σ T nu mu) (hZ : uZ (tyW T) ≤ 2000) (ht : d_ti c < 11) (hf : d_fi c < 11) (f8 : d_fam c = 8) {q : Option sT × Option sT} (ho : s_rel c σ = .ok q) : ∃ g, ty_rel c T = some g ∧ (g → ∃ a, q.1 = some a ∧ gam nm en a T nu mu) ∧ (¬ g → ∃ b, q.2 = some b ∧ gam nm en b T nu mu) := by
  have hto := h.2.2.1 (d_ti c) (by omega)
  have hby := gm_by (c := c) h hf
  have opn := rel_opn f8
  have wby : cK (s_by c σ) = 4 → c_wf nm (s_by c σ) := by
    intro z
    unfold s_by at z ⊢
    by_cases g : d_rf c = 0
    · rw [if_pos g] at z; exact absurd (show (1 : Int32) = 4 from z) (by decide)
    · rw [if_neg g]; exact hg _ (by omega)
  unfold s_rel at ho
  unfold ty_rel
  by_cases nn : cK (σ (d_ti c)) = 1 ∧ cK (s_by c σ) = 1
  · rw [if_pos nn] at ho
    have n1 := hto.1 nn.1
    have n2 := hby.1 nn.2
    rw [if_pos ⟨gm_k1 hto nn.1, gm_k1 hby nn.2⟩]
    by_cases sm : ¬ d_rf c = 0 ∧ d_ti c = d_fi c
    · rw [if_pos sm] at ho
      cases ho
      exact ⟨_, rfl, fun _ => ⟨_, rfl, h⟩, fun _ => ⟨_, rfl, h⟩⟩
    · rw [if_neg sm] at ho
      cases ho
      have n3 : ¬ d_rf c = 0 → tyC T (d_fi c) = ty_n (tyC T (d_fi c)).2.1 := by
        intro z
        have := n2.1
        unfold ty_op at this
        rw [if_neg z] at this
        exact this
      exact ⟨_, rfl, fun g => tn_ok h ht hf n1.1 n3 (gT_tell n1.2 n2.2 g), fun g => tn_ok h ht hf n1.1 n3 (gT_tell n1.2 n2.2 (hldn_no opn g))⟩
  rw [if_neg nn] at ho
  by_cases nar : ¬ d_nar c = 0
  · rw [if_pos nar] at ho; cases ho
  rw [if_neg nar] at ho
  have nar0 : d_nar c = 0 := Classical.not_not.mp nar
  by_cases mb : (d_opn c = 0 ∨ d_opn c = 4) ∧ ((cK (σ (d_ti c)) = 8 ∧ c_zero (s_by c σ)) ∨ (c_zero (σ (d_ti c)) ∧ cK (s_by c σ) = 8))
  · rw [if_pos mb] at ho
    cases ho
    obtain ⟨o04, mb2⟩ := mb
    obtain ⟨id, hid⟩ : ∃ id, id = (if cK (σ (d_ti c)) = 8 then cI (σ (d_ti c)) else cI (s_by c σ)) := ⟨_, rfl⟩
    have zer : ∀ {a : sC} {u : tyV}, gm_c nm en (uZ (tyW T)) nu mu a u → c_zero a → u = ty_n 0 := by
      intro a u hu hz
      obtain ⟨e1, e2⟩ := hu.1 hz.1
      rw [e1, gN_ex e2 hz.2.1, hz.2.2]
    have key : (mu id ∧ (((tyC T (d_ti c)).1 = 7 ∧ (ty_op c T).1 = 1 ∧ (ty_op c T).2.1 = 0 ∧ (tyC T (d_ti c)).2.1 = 0) ∨ ((tyC T (d_ti c)).1 = 1 ∧ (tyC T (d_ti c)).2.1 = 0 ∧ (ty_op c T).1 = 7 ∧ (ty_op c T).2.1 = 0))) ∨ (¬ mu id ∧ tyC T (d_ti c) = ty_n 0 ∧ ty_op c T = ty_n 0) := by
      rcases mb2 with ⟨m1, m2⟩ | ⟨m1, m2⟩
      · rw [if_pos m1] at hid
        have z := zer hby m2
        rw [hid]
        rcases hto.2.2.2.2.2.2.2.1 m1 with y | y
        · exact Or.inl ⟨y.1, Or.inl ⟨y.2.1, by rw [z], by rw [z], y.2.2.2.2.2⟩⟩
        · exact Or.inr ⟨y.1, y.2, z⟩
      · rw [if_neg (by rw [m1.1]; decide)] at hid
        have z := zer hto m1
        rw [hid]
        rcases hby.2.2.2.2.2.2.2.1 m2 with y | y
        · exact Or.inl ⟨y.1, Or.inr ⟨by rw [z], by rw [z], y.2.1, y.2.2.2.2.2⟩⟩
        · exact Or.inr ⟨y.1, z, y.2⟩
    rw [← hid]
    rcases key with ⟨m, k⟩ | ⟨m, k1, k2⟩
    · have nb : ¬ ((tyC T (d_ti c)).1 = 1 ∧ (ty_op c T).1 = 1) := by
        rintro ⟨b1, b2⟩
        rcases k with k | k
        · rw [k.1] at b1; exact absurd b1 (by decide)
        · rw [k.2.2.1] at b2; exact absurd b2 (by decide)
      rw [if_neg nb, if_neg nar, if_pos ⟨o04, k⟩]
      refine ⟨_, rfl, fun g => ⟨_, rfl, dec_ok h (Or.inl ⟨?_, m⟩)⟩, fun g => ⟨_, rfl, dec_ok h (Or.inl ⟨?_, m⟩)⟩⟩
      · rw [if_neg (by rw [g]; decide)]
      · rcases o04 with o | o
        · rw [if_pos o]
        · exact absurd o g
    · rw [k1, k2, if_pos ⟨rfl, rfl⟩, nar0]
      refine ⟨_, rfl, fun g => ⟨_, rfl, dec_ok h (Or.inr ⟨?_, m⟩)⟩, fun g => ⟨_, rfl, dec_ok h (Or.inr ⟨?_, m⟩)⟩⟩
      · rcases o04 with o | o
        · rw [if_pos o]
        · rw [o] at g
          exact absurd rfl (show ¬ (0 : Int64) = 0 from g)
      · rcases o04 with o | o
        · rw [o] at g
          exact absurd (show (0 : Int64) = 0 from rfl) g
        · rw [if_neg (by rw [o]; decide)]
  rw [if_neg mb] at ho
  have only : ∀ {r : Int32} {pp : sC}, s_end pp r σ = .ok q → r = 1 ∨ r = 2 ∨ r = 7 ∨ r = 8 := by
    intro r pp z
    unfold s_end at z
    by_cases r1 : r = 1
    · exact Or.inl r1
    by_cases r2 : r = 2
    · exact Or.inr (Or.inl r2)
    by_cases r7 : r = 7
    · exact Or.inr (Or.inr (Or.inl r7))
    by_cases r8 : r = 8
    · exact Or.inr (Or.inr (Or.inr r8))
    rw [if_neg r1, if_neg r2, if_neg r7, if_neg r8] at z
    cases z
  by_cases pe : cK (σ (d_ti c)) = 4 ∧ cK (s_by c σ) = 5
  · rw [if_pos pe] at ho
    have t4 := (hto.2.2.2.1 pe.1).1
    obtain ⟨t5, v5⟩ := hby.2.2.2.2.1 pe.2
    have on := only ho
    rw [if_neg (by rw [t4]; exact fun z => absurd z.1 (by decide)), if_neg nar, if_neg (by rw [t4]; exact fun z => z.2.elim (fun y => absurd y.1 (by decide)) (fun y => absurd y.1 (by decide))), if_pos ⟨on, Or.inl ⟨t4, t5⟩⟩]
    refine ⟨_, rfl, end_ok (hg _ (by omega)) h hto hZ pe.1 ho (fun e => ?_) (fun e => ?_) (fun e => ?_) (fun e => ?_)⟩ <;> rw [e, v5] <;> exact Iff.rfl
  rw [if_neg pe] at ho
  by_cases ep : cK (σ (d_ti c)) = 5 ∧ cK (s_by c σ) = 4
  · rw [if_pos ep] at ho
    have t4 := (hby.2.2.2.1 ep.2).1
    obtain ⟨t5, v5⟩ := hto.2.2.2.2.1 ep.1
    have on0 := only ho
    have tn : (s_turn (d_opn c) = 1 → d_opn c = 7) ∧ (s_turn (d_opn c) = 2 → d_opn c = 8) ∧ (s_turn (d_opn c) = 7 → d_opn c = 1) ∧ (s_turn (d_opn c) = 8 → d_opn c = 2) := by
      simp only [List.mem_cons, List.not_mem_nil, or_false] at opn
      rcases opn with e | e | e | e | e | e | e | e | e | e | e <;> rw [e] <;> decide
    have on : d_opn c = 1 ∨ d_opn c = 2 ∨ d_opn c = 7 ∨ d_opn c = 8 := by
      rcases on0 with e | e | e | e
      · exact Or.inr (Or.inr (Or.inl (tn.1 e)))
      · exact Or.inr (Or.inr (Or.inr (tn.2.1 e)))
      · exact Or.inl (tn.2.2.1 e)
      · exact Or.inr (Or.inl (tn.2.2.2 e))
    rw [if_neg (by rw [t5]; exact fun z => absurd z.1 (by decide)), if_neg nar, if_neg (by rw [t5]; exact fun z => z.2.elim (fun y => absurd y.1 (by decide)) (fun y => absurd y.1 (by decide))), if_pos ⟨on, Or.inr ⟨t5, t4⟩⟩]
    refine ⟨_, rfl, end_ok (wby ep.2) h hby hZ ep.2 ho (fun e => ?_) (fun e => ?_) (fun e => ?_) (fun e => ?_)⟩
    · rw [tn.1 e, v5]; exact Iff.rfl
    · rw [tn.2.1 e, v5]; exact Iff.rfl
    · rw [tn.2.2.1 e, v5]; exact Iff.rfl
    · rw [tn.2.2.2 e, v5]; exact Iff.rfl
  · rw [if_neg ep] at ho; cases ho
/-- a number that covers another -/
theorem cov_gN {v : Int64} (h : fn_cov x y) (g : gN y v) (hw : nW x) : gN x v := by
  obtain ⟨h1, h2, h3, h4, h5, h6⟩ := h
  obtain ⟨g1, g2, g3, g4, g5, g6⟩ := g
  rw [fn_lt_un] at h3 h4
  rw [l_le] at h5 h6
  refine ⟨hw, fun i hi z => ?_, by omega, by omega, by omega, by omega⟩
  have e1 := bt_zero.mp h1 i hi
  have e2 := bt_zero.mp h2 i hi
  rw [bt_and, bt_not hi, z] at e1
  rw [bt_and, bt_not hi, bt_xor, z] at e2
  rw [g2 i hi (by simpa using e1)]
  revert e2
  cases bt x.1 i <;> cases bt y.1 i <;> decide
/-- a state that covers another tells of the same -/
theorem in_ok {d2 : Nat} (hin : s_in k σ) (hk : s_fr d2 k) (h : gam nm en σ T nu mu) : ∃ nu2 mu2, gam nm en k T nu2 mu2 := by
  obtain ⟨i1, i2, i3⟩ := hin
  obtain ⟨h1, h2, h3, h4⟩ := h
  have ex : ∃ nu2 : Int32 → Int64, nu2 0 = 0 ∧ (∀ j, un (nu2 j) ≤ 65535) ∧ ∀ i, i < 75 → hid (k i) → nu2 (cI (k i)) = nu (cI (σ i)) := by
    refine ⟨fun j => @dite _ (∃ i, i < 75 ∧ hid (k i) ∧ cI (k i) = j) (Classical.propDecidable _) (fun z => nu (cI (σ (Classical.choose z)))) (fun _ => 0), ?_, ?_, ?_⟩
    · show @dite _ _ (Classical.propDecidable _) _ _ = (0 : Int64)
      split
      · rename_i z
        obtain ⟨z1, z2, z3⟩ := Classical.choose_spec z
        rw [(i3 _ z1 z2).mp z3]
        exact h1
      · rfl
    · intro j
      show un (@dite _ _ (Classical.propDecidable _) _ _) ≤ 65535
      split
      · exact h2 _
      · rw [un_z]; decide
    · intro i hi hh
      show @dite _ _ (Classical.propDecidable _) _ _ = _
      split
      · rename_i z
        obtain ⟨z1, z2, z3⟩ := Classical.choose_spec z
        rw [(i2 _ i z1 hi z2 hh).mp z3]
      · rename_i z
        exact absurd ⟨i, hi, hh, rfl⟩ z
  obtain ⟨nu2, n1, n2, n3⟩ := ex
  have m3 : ∀ i, i < 75 → hid (k i) → ((∃ j, j < 75 ∧ hid (k j) ∧ cI (k j) = cI (k i) ∧ mu (cI (σ j))) ↔ mu (cI (σ i))) := by
    intro i hi hh
    constructor
    · rintro ⟨j, z1, z2, z3, z4⟩
      rw [← (i2 j i z1 hi z2 hh).mp z3]
      exact z4
    · intro z
      exact ⟨i, hi, hh, rfl, z⟩
  refine ⟨nu2, fun id => ∃ j, j < 75 ∧ hid (k j) ∧ cI (k j) = id ∧ mu (cI (σ j)), n1, n2, fun j hj => ?_, fun j g1 hj => ?_⟩
  · rcases i1 j hj with z | ⟨z1, z2, z3, z4, z5, z6⟩
    · exact gm_0 z.1
    · have z1 : ¬ cK (k j) = 0 := z1
      have z2 : cK (k j) = cK (σ j) := z2
      have z3 : cPl (k j) = cPl (σ j) := z3
      have z4 : cM (k j) = cM (σ j) := z4
      have z5 : cR (k j) ≤ cR (σ j) := z5
      have z6 : (cK (k j) = 1 ∨ cK (k j) = 4 ∨ cK (k j) = 7) → fn_cov (cX (k j)) (cX (σ j)) := z6
      rw [i32_le] at z5
      have wj := (hk j hj).2.2
      obtain ⟨c1, c2, c3, c4, c5, c6, c7, c8, c9⟩ := h3 j hj
      refine ⟨fun e => ?_, fun e => ?_, fun e => ?_, fun e => ?_, fun e => ?_, fun e => ?_, fun e => ?_, fun e => ?_, fun _ => c9 (fun y => z1 (z2.trans y))⟩
      · obtain ⟨a1, a2⟩ := c1 (z2.symm.trans e)
        exact ⟨a1, cov_gN (z6 (Or.inl e)) a2 wj⟩
      · rw [z3]; exact c2 (z2.symm.trans e)
      · rw [z3]; exact c3 (z2.symm.trans e)
      · obtain ⟨a1, a2, a3, a4⟩ := c4 (z2.symm.trans e)
        rw [z3, n3 j hj (Or.inl e)]
        exact ⟨a1, a2, cov_gN (z6 (Or.inr (Or.inl e))) a3 wj, fun y => by have := a4 (by omega); omega⟩
      · exact c5 (z2.symm.trans e)
      · rw [z4]; exact c6 (z2.symm.trans e)
      · obtain ⟨a1, a2, a3, a4, u, a5, a6⟩ := c7 (z2.symm.trans e)
        rw [z3, z4]
        exact ⟨a1, a2, a3, a4, u, cov_gN (z6 (Or.inr (Or.inr e))) a5 wj, a6⟩
      · rw [z4]
        have := c8 (z2.symm.trans e)
        have m := m3 j hj (Or.inr e)
        exact this.imp (fun y => ⟨m.mpr y.1, y.2⟩) (fun y => ⟨fun z => y.1 (m.mp z), y.2⟩)
  · intro kz b hb hbit
    rcases i1 j hj with ⟨_, z⟩ | z
    · have z : cW (k j) = 0 ∨ (cK (σ j) = 0 ∧ cW (k j) &&& (cW (σ j) ^^^ -1) = 0) ∨ cK (σ j) = 1 := z
      rcases z with z | z | z
      · rw [z] at hbit
        have : ib 0 b = false := by unfold ib; exact BitVec.getLsbD_zero ..
        rw [this] at hbit
        exact absurd hbit (by decide)
      · refine h4 j g1 hj z.1 b hb ?_
        have e : ib (cW (k j) &&& (cW (σ j) ^^^ -1)) b = false := by rw [z.2]; unfold ib; exact BitVec.getLsbD_zero ..
        rw [ib_and, hbit, Bool.true_and] at e
        have nx : ib (cW (σ j) ^^^ -1) b = !ib (cW (σ j)) b := by
          unfold ib
          rw [Int32.toBitVec_xor, BitVec.getLsbD_xor]
          have m1 : ∀ b, b < 8 → (-1 : Int32).toBitVec.getLsbD b = true := by decide
          rw [m1 b hb, Bool.xor_true]
        rw [nx] at e
        simpa using e
      · exact Or.inr (gm_k1 (h3 j hj) z)
    · exact absurd kz z.1
/-- an instruction that is no relation -/
theorem do_sd (hg : s_gd nm σ) (hfr : s_fr d σ) (hd : d ≤ 20000) (h : gam nm en σ T nu mu) (hZ : uZ (tyW T) ≤ 2000) (hkb : ∀ m, m < nm → 0 ≤ (kb (nI m)).toInt ∧ (kb (nI m)).toInt ≤ 64) (hvb : ∀ m, m < nm → 0 ≤ (vb (nI m)).toInt ∧ (vb (nI m)).toInt ≤ 64) (hen : ∀ m, m < nm → en m ≤ 64) (hnm : nm ≤ 4) (ht : d_ti c < 11) (hf : d_fi c < 11) (h1 : d_fam c = 1 → ¬ d_from c = 0 → ∃ m, m < nm ∧ d_field c = nI m) (h9 : d_fam c = 9 → d_field c = 1 ∨ d_field c = 2 ∨ d_field c = 3 ∨ d_field c = 4 ∨ d_field c = 5 ∨ d_field c = 6) (hu : ¬ s_unr c σ) {q : sT × Int32} (ho : s_do c w kb vb σ (nI d) = .ok q) : ∃ T1 nu2 mu2, ty_do c w nm tb kb vb en T = some T1 ∧ uZ (tyW T1) = uZ (tyW T) ∧ gam nm en q.1 T1 nu2 mu2 ∧ (d_fam c = 10 → (tyC T1 0).1 = 1) := by
  have hby0 : ¬ cK (s_by c σ) = 0 := by
    unfold s_by
    by_cases g : d_rf c = 0
    · rw [if_pos g]; exact (show ¬ (1 : Int32) = 0 by decide)
    · rw [if_neg g]; exact fun z => hu (Or.inr ⟨g, z⟩)
  unfold s_do at ho
  unfold ty_do
  by_cases f1 : d_fam c = 1
  · rw [if_pos f1] at ho ⊢
    unfold s_wide at ho
    cases ho
    refine ⟨_, nu, mu, rfl, rfl, gam_set h ht ?_, fun z => absurd (f1.symm.trans z) (by decide)⟩
    by_cases g : d_from c = 0
    · rw [if_pos g, if_pos g]; exact gm_1 rfl ⟨rfl, ex_gN⟩
    · rw [if_neg g, if_neg g]
      obtain ⟨m, m1, m2⟩ := h1 f1 g
      refine gm_6 rfl ⟨rfl, ?_, ?_⟩
      · show d_field c = nI (d_field c).toNatClampNeg
        rw [m2, nI_tn (by omega)]
      · show (d_field c).toNatClampNeg < nm
        rw [m2, nI_tn (by omega)]
        exact m1
  rw [if_neg f1] at ho ⊢
  by_cases f6 : d_fam c = 6
  · rw [if_pos f6] at ho ⊢
    obtain ⟨T1, nu2, a1, a2, a3⟩ := ari_ok hg hfr hd h ht hf ho
    exact ⟨T1, nu2, mu, a1, by rw [a2], a3, fun z => absurd (f6.symm.trans z) (by decide)⟩
  rw [if_neg f6] at ho ⊢
  by_cases f7 : d_fam c = 7
  · rw [if_pos f7] at ho ⊢
    cases ho
    exact ⟨T, nu, mu, rfl, rfl, h, fun z => absurd (f7.symm.trans z) (by decide)⟩
  rw [if_neg f7] at ho ⊢
  by_cases f9 : d_fam c = 9
  · rw [if_pos f9] at ho ⊢
    obtain ⟨T1, mu2, a1, a2, a3⟩ := help_ok (tb := tb) hg hfr hd h hZ hkb hvb hen (h9 f9) ho
    exact ⟨T1, nu, mu2, a1, a2, a3, fun z => absurd (f9.symm.trans z) (by decide)⟩
  rw [if_neg f9] at ho ⊢
  by_cases f10 : d_fam c = 10
  · rw [if_pos f10] at ho ⊢
    by_cases g : cK (σ 0) = 1
    · rw [if_pos g] at ho
      cases ho
      have n1 := gm_k1 (h.2.2.1 0 (by decide)) g
      rw [if_pos n1]
      exact ⟨T, nu, mu, rfl, rfl, h, fun _ => n1⟩
    · rw [if_neg g] at ho; cases ho
  rw [if_neg f10] at ho ⊢
  by_cases f2 : d_fam c = 2
  · rw [if_pos f2]
    obtain ⟨T1, a1, a2, a3⟩ := load_ok hg hfr h hZ hvb ht hf f2 ho
    exact ⟨T1, nu, mu, a1, by rw [a2], a3, fun z => absurd z f10⟩
  · rw [if_neg f2]
    obtain ⟨T1, a1, a2, a3⟩ := put_ok hg hfr h hZ hvb ht hf f2 hby0 ho
    exact ⟨T1, nu, mu, a1, a2, a3, fun z => absurd z f10⟩
theorem unr_ok (h : gam nm en σ T nu mu) (ht : d_ti c < 11) (hf : d_fi c < 11) (hu : ¬ s_unr c σ) : ¬ ty_unr c T := by
  rintro (⟨z1, z2⟩ | ⟨z1, z2⟩)
  · exact (h.2.2.1 (d_ti c) (by omega)).2.2.2.2.2.2.2.2 (fun y => hu (Or.inl ⟨z1, y⟩)) z2
  · exact (h.2.2.1 (d_fi c) (by omega)).2.2.2.2.2.2.2.2 (fun y => hu (Or.inr ⟨z1, y⟩)) z2
/-- numbers of the maps -/
def mpz (nm : Nat) (kb vb : Int32 → Int32) (en : Nat → Nat) : Prop := nm ≤ 4 ∧ ∀ m, m < nm → (0 ≤ (kb (nI m)).toInt ∧ (kb (nI m)).toInt ≤ 64) ∧ (0 ≤ (vb (nI m)).toInt ∧ (vb (nI m)).toInt ≤ 64) ∧ en m ≤ 64
theorem Sf_fr {k : Nat} (h : Sf p n sec nm kb vb F k σ s) : ∃ d, s_fr d σ := by
  cases k with
  | zero => exact h.elim
  | succ k =>
    obtain ⟨_, _, _, _, _, d, _, h2, _⟩ := h
    exact ⟨d, h2⟩
theorem Cv_ok {k : Nat} {τ : sT} (h : gam nm en τ T nu mu) (g : ∃ θ, (θ = τ ∨ s_in θ τ) ∧ Sf p n sec nm kb vb F k θ s) : ∃ θ nu2 mu2, Sf p n sec nm kb vb F k θ s ∧ gam nm en θ T nu2 mu2 := by
  obtain ⟨θ, g1, g2⟩ := g
  rcases g1 with e | e
  · subst e; exact ⟨θ, nu, mu, g2, h⟩
  · obtain ⟨d2, hd2⟩ := Sf_fr g2
    obtain ⟨nu2, mu2, h2⟩ := in_ok e hd2 h
    exact ⟨θ, nu2, mu2, g2, h2⟩
theorem step_ok (hp : pF p n sec nm) (hm : mpz nm kb vb en) {k : Nat} (hs : Sf p n sec nm kb vb F (k + 1) σ s) (h : gam nm en σ T nu mu) (hZ : uZ (tyW T) ≤ 2000) : s < n ∧ ¬ sec s ∧ 0 < F.1 s ∧ ¬ ty_unr (p s) T ∧ (d_fam (p s) = 8 → ∃ g, ty_rel (p s) T = some g ∧ (g → F.2.1 s ∧ ∃ θ nu2 mu2, Sf p n sec nm kb vb F k θ (d_tg (p s) s) ∧ gam nm en θ T nu2 mu2) ∧ (¬ g → F.2.2.1 s ∧ ∃ θ nu2 mu2, Sf p n sec nm kb vb F k θ (s + 1) ∧ gam nm en θ T nu2 mu2)) ∧ (¬ d_fam (p s) = 8 → ∃ T1, ty_do (p s) (p (s + 1)) nm tb kb vb en T = some T1 ∧ uZ (tyW T1) = uZ (tyW T) ∧ (d_fam (p s) = 6 → F.2.2.2.1 s = 1 → tyC T1 (d_ti (p s)) = ty_n (F.2.2.2.2 s)) ∧ (d_fam (p s) = 10 → (tyC T1 0).1 = 1) ∧ (¬ d_fam (p s) = 10 → ∃ θ nu2 mu2, Sf p n sec nm kb vb F k θ (x_nx p s) ∧ gam nm en θ T1 nu2 mu2)) := by
  obtain ⟨s1, s2, s3, s4, s5, d, s6, s7, s8, s9⟩ := hs
  obtain ⟨k0, k1, k2, k3, k4, k5, k6⟩ := hp.2.2.2 s s1 s2
  refine ⟨s1, s2, s4, unr_ok h k1 k2 s5, fun f8 => ?_, fun f8 => ?_⟩
  · obtain ⟨q, q1, q2, q3⟩ := s8 f8
    obtain ⟨g, g1, g2, g3⟩ := rel_sd s3 h hZ k1 k2 f8 q1
    refine ⟨g, g1, fun z => ?_, fun z => ?_⟩
    · obtain ⟨a, a1, a2⟩ := g2 z
      exact ⟨(q2 a a1).1, Cv_ok a2 (q2 a a1).2⟩
    · obtain ⟨b, b1, b2⟩ := g3 z
      exact ⟨(q3 b b1).1, Cv_ok b2 (q3 b b1).2⟩
  · obtain ⟨q, q1, q2, q3⟩ := s9 f8
    obtain ⟨T1, nu2, mu2, t1, t2, t3, t4⟩ := do_sd (tb := tb) s3 s7 s6 h hZ (fun m z => (hm.2 m z).1) (fun m z => (hm.2 m z).2.1) (fun m z => (hm.2 m z).2.2) hm.1 k1 k2 (fun a b => (k3 a).2.2.2 b) k6 s5 q1
    refine ⟨T1, t1, t2, fun f6 ex => ?_, t4, fun f10 => Cv_ok t3 (q3 f10)⟩
    obtain ⟨e1, e2, e3⟩ := q2 f6 ex
    obtain ⟨c1, c2⟩ := (t3.2.2.1 (d_ti (p s)) (by omega)).1 e1
    rw [c1, gN_ex c2 e2, e3]
theorem run_ok (hp : pF p n sec nm) (hm : mpz nm kb vb en) : ∀ (k : Nat) (σ : sT) (s : Nat) (T : tyT) (nu : Int32 → Int64) (mu : Int32 → Prop), Sf p n sec nm kb vb F k σ s → gam nm en σ T nu mu → uZ (tyW T) ≤ 2000 → ∃ T1 N, ty_run p nm tb kb vb en k T s = some (T1, N) ∧ N ≤ k ∧ (tyC T1 0).1 = 1 ∧ uZ (tyW T1) = uZ (tyW T) := by
  intro k
  induction k with
  | zero => intro σ s T nu mu h _ _; exact h.elim
  | succ k ih =>
    intro σ s T nu mu hs h hZ
    obtain ⟨s1, s2, s3, s4, s5, s6⟩ := step_ok (tb := tb) hp hm hs h hZ
    rw [ty_run]
    unfold ty_step
    rw [if_neg s4]
    by_cases f8 : d_fam (p s) = 8
    · rw [if_pos f8]
      obtain ⟨g, g1, g2, g3⟩ := s5 f8
      rw [g1]
      dsimp only
      by_cases z : g
      · rw [ic_t z]
        obtain ⟨_, θ, nu2, mu2, a1, a2⟩ := g2 z
        obtain ⟨T1, N, b1, b2, b3, b4⟩ := ih _ _ _ _ _ a1 a2 hZ
        rw [b1]
        exact ⟨T1, N + 1, rfl, by omega, b3, b4⟩
      · rw [ic_f z]
        obtain ⟨_, θ, nu2, mu2, a1, a2⟩ := g3 z
        obtain ⟨T1, N, b1, b2, b3, b4⟩ := ih _ _ _ _ _ a1 a2 hZ
        rw [b1]
        exact ⟨T1, N + 1, rfl, by omega, b3, b4⟩
    · rw [if_neg f8]
      obtain ⟨T1, t1, t2, t3, t4, t5⟩ := s6 f8
      rw [t1]
      dsimp only
      by_cases f10 : d_fam (p s) = 10
      · rw [if_pos f10]
        exact ⟨T1, 1, rfl, by omega, t4 f10, t2⟩
      · rw [if_neg f10]
        obtain ⟨θ, nu2, mu2, a1, a2⟩ := t5 f10
        obtain ⟨T2, N, b1, b2, b3, b4⟩ := ih _ _ _ _ _ a1 a2 (by rw [t2]; exact hZ)
        dsimp only
        rw [b1]
        exact ⟨T2, N + 1, rfl, by omega, b3, b4.trans t2⟩
end GH
