/-! PURE: the class takes an instruction. -/
noncomputable def s_do (c w : Int64) (kb vb : Int32 → Int32) (σ : sT) (ids : Int32) : sR :=
  if d_fam c = 1 then s_wide c w σ ids else if d_fam c = 6 then s_arith c σ ids else if d_fam c = 7 then .ok (σ, ids) else if d_fam c = 9 then s_help c kb vb σ ids else if d_fam c = 10 then (if cK (σ 0) = 1 then .ok (σ, ids) else .error 18) else s_mem c vb σ ids
abbrev s_unr (c : Int64) (σ : sT) : Prop := (¬ d_rt c = 0 ∧ cK (σ (d_ti c)) = 0) ∨ (¬ d_rf c = 0 ∧ cK (σ (d_fi c)) = 0)
def stw (M : me_M) (s : Nat) : me_M := wR (wR M 7 0 6 (some s)) 7 0 5 (some s)
/-- the Steps, their Code at c, before a state is given -/
def stb (M : me_M) (c : Int64) : Prop := lk M 0 c ∧ ss M ∧ ps_R M ∧ mR M 7 0 0 = some 0 ∧ mR M 7 0 1 = some 0 ∧ mR M 7 0 2 = some 0 ∧ mR M 7 0 3 = some 0 ∧ mR M 7 0 4 = some 6 ∧ mR M 7 0 15 = some 7 ∧ mR M 7 0 16 = some 8 ∧ mR M 7 0 17 = some 9 ∧ mR M 7 0 18 = some 10 ∧ d_ti c < 11 ∧ d_fi c < 11
section CT
variable {M : me_M} {s : Nat} {c : Int64} {nm : Nat} {kb vb : Int32 → Int32}
theorem stw_o {k j f : Nat} (h : ¬ (k = 7 ∧ j = 0 ∧ (f = 5 ∨ f = 6))) : mR (stw M s) k j f = mR M k j f := by
  unfold stw
  show (if k = 7 ∧ j = 0 ∧ f = 5 then _ else if k = 7 ∧ j = 0 ∧ f = 6 then _ else mR M k j f) = _
  rw [if_neg (fun z => h ⟨z.1, z.2.1, Or.inl z.2.2⟩), if_neg (fun z => h ⟨z.1, z.2.1, Or.inr z.2.2⟩)]
theorem stw_5 : mR (stw M s) 7 0 5 = some s := by
  unfold stw
  rw [pR_R, if_pos ⟨rfl, rfl, rfl⟩]
theorem stw_6 : mR (stw M s) 7 0 6 = some s := by
  unfold stw
  rw [pR_R, if_neg (by decide), pR_R, if_pos ⟨rfl, rfl, rfl⟩]
theorem stw_k {k : Nat} (h : ¬ k = 7) : mR (stw M s) k = mR M k := by
  funext j f
  exact stw_o (fun z => h z.1)
theorem stw_stp (h : stb M c) (hs : s < mN M 9) : stp (stw M s) s c ∧ st4 (stw M s) := by
  obtain ⟨h1, h2, h3, h4, h5, h6, h7, h8, h9, h10, h11, h12, h13, h14⟩ := h
  refine ⟨⟨h1, ?_, ?_, hs, ?_, ?_, ?_, ?_, ?_, stw_5, stw_6, h13, h14⟩, ?_, ?_, ?_, ?_, ?_⟩
  · unfold ss at h2 ⊢
    rw [stw_k (k := 9) (by decide), stw_k (k := 18) (by decide), stw_k (k := 10) (by decide)]
    exact h2
  · unfold ps_R at h3 ⊢
    rw [stw_k (k := 8) (by decide)]
    exact h3
  · exact (stw_o (by decide)).trans h4
  · exact (stw_o (by decide)).trans h5
  · exact (stw_o (by decide)).trans h6
  · exact (stw_o (by decide)).trans h7
  · exact (stw_o (by decide)).trans h8
  · exact (stw_o (by decide)).trans h4
  · exact (stw_o (by decide)).trans h9
  · exact (stw_o (by decide)).trans h10
  · exact (stw_o (by decide)).trans h11
  · exact (stw_o (by decide)).trans h12
theorem fam_c (c : Int64) : ∃ n, n < 256 ∧ d_op c = nI n := and_255 c.toInt32
theorem st_take (h : stb M c) (hs : s < mN M 9) {u k n : Nat} (hu : us M s u) (hst : sto M nm kb vb) (hw : s_wf nm (sv M s)) (hk : ∀ m, m < nm → 0 ≤ (kb (nI m)).toInt ∧ (kb (nI m)).toInt ≤ 512 ∧ 0 ≤ (vb (nI m)).toInt ∧ (vb (nI m)).toInt ≤ 512) (ha : mI M 9 s 2 = nI k) (hn : mI M 2 0 3 = nI n) (hkn : d_fam c = 1 → k + 1 < n) (hn2 : n ≤ 2000) (hR : mR M 2 0 0 = some 0) (hZ : mZ M 16 0 = 2000) (hf0 : ¬ d_fam c = 0) : ∃ M1 r, f_Steps_take M 0 s = some (M1, r) ∧ tk s (stw M s) M1 ∧ (s_unr c (sv M s) → r = 10) ∧ (¬ s_unr c (sv M s) → ¬ d_fam c = 8 → rs s M1 r (s_do c (mL M 16 0 (k + 1)) kb vb (sv M s) (mI M 7 0 7))) ∧ (¬ s_unr c (sv M s) → d_fam c = 8 → (∀ i, i < 75 → sv M1 s i = sv M s i) ∧ rl M1 r c (sv M s) (mI M 7 0 7) (s_rel c (sv M s))) := by
  obtain ⟨hW, h4⟩ := stw_stp h hs
  obtain ⟨t, ht, e1, e2⟩ := d_ti_n hW.2.2.2.2.2.2.2.2.2.2.2.1
  obtain ⟨f, hf, e3, e4⟩ := d_fi_n hW.2.2.2.2.2.2.2.2.2.2.2.2
  obtain ⟨W, hWd⟩ : ∃ W, W = stw M s := ⟨_, rfl⟩
  rw [← hWd] at hW h4 ⊢
  have svW : sv W s = sv M s := by rw [hWd]; rfl
  have IW : mI W = mI M := by rw [hWd]; rfl
  have LW : mL W = mL M := by rw [hWd]; rfl
  have uW : us W s u := by rw [hWd]; exact hu
  have stW : sto W nm kb vb := by
    refine ⟨hst.1, by rw [hWd]; exact hst.2.1, ?_⟩
    intro m hm
    rw [IW, hWd, stw_k (by decide)]
    exact hst.2.2 m hm
  have wW : s_wf nm (sv W s) := by rw [svW]; exact hw
  obtain ⟨l1, l2, l3, l4, l5, l6, l7, l8, l9, l10, l11⟩ := hW.1
  unfold f_Steps_take
  rw [st_eq, show mR (wR M 7 0 6 (some s)) 9 s 0 = mR M 9 s 0 from by rw [pR_R, if_neg (fun z => absurd z.1 (by decide))], (h.2.1.1 s hs).1, bd_some, st_eq]
  have eW : wR (wR M 7 0 6 (some s)) 7 0 5 (some s) = W := by rw [hWd]; rfl
  rw [eW, hW.2.2.2.2.1, bd_some, l10]
  have b82 : ¬ s_unr c (sv M s) → ∃ M1 r, f_Steps_take_b82 0 W = some (M1, r) ∧ tk s W M1 ∧ (s_unr c (sv M s) → r = 10) ∧ (¬ s_unr c (sv M s) → ¬ d_fam c = 8 → rs s M1 r (s_do c (mL M 16 0 (k + 1)) kb vb (sv M s) (mI M 7 0 7))) ∧ (¬ s_unr c (sv M s) → d_fam c = 8 → (∀ i, i < 75 → sv M1 s i = sv M s i) ∧ rl M1 r c (sv M s) (mI M 7 0 7) (s_rel c (sv M s))) := by
    intro nu9
    have fin : ∀ (m : Option (me_M × Int32)) (o : sR), ¬ d_fam c = 8 → s_do c (mL M 16 0 (k + 1)) kb vb (sv M s) (mI M 7 0 7) = o → (∃ M1 r, m = some (M1, r) ∧ tk s W M1 ∧ rs s M1 r o) → ∃ M1 r, m = some (M1, r) ∧ tk s W M1 ∧ (s_unr c (sv M s) → r = 10) ∧ (¬ s_unr c (sv M s) → ¬ d_fam c = 8 → rs s M1 r (s_do c (mL M 16 0 (k + 1)) kb vb (sv M s) (mI M 7 0 7))) ∧ (¬ s_unr c (sv M s) → d_fam c = 8 → (∀ i, i < 75 → sv M1 s i = sv M s i) ∧ rl M1 r c (sv M s) (mI M 7 0 7) (s_rel c (sv M s))) := by
      rintro m o n8 ho ⟨M1, r, q1, q2, q3⟩
      exact ⟨M1, r, q1, q2, fun z => absurd z nu9, fun _ _ => by rw [ho]; exact q3, fun _ z => absurd z n8⟩
    have memc : (∃ M1 r, b2 (f_Steps_memory W 0) (fun M9 r10 => some (M9, r10)) = some (M1, r) ∧ tk s W M1 ∧ rs s M1 r (s_mem c vb (sv M s) (mI M 7 0 7))) := by
      obtain ⟨M1, r, q1, q2, q3⟩ := st_mem hW uW stW wW
      rw [q1, b2_some]
      rw [svW, IW] at q3
      exact ⟨M1, r, rfl, q2, q3⟩
    unfold f_Steps_take_b82
    rw [hW.2.2.2.2.1, bd_some, l6]
    have do_mem : (d_fam c = 2 ∨ d_fam c = 3 ∨ d_fam c = 4 ∨ d_fam c = 5) → s_do c (mL M 16 0 (k + 1)) kb vb (sv M s) (mI M 7 0 7) = s_mem c vb (sv M s) (mI M 7 0 7) := by
      intro hm
      unfold s_do
      rw [if_neg (by rcases hm with r | r | r | r <;> rw [r] <;> decide), if_neg (by rcases hm with r | r | r | r <;> rw [r] <;> decide), if_neg (by rcases hm with r | r | r | r <;> rw [r] <;> decide), if_neg (by rcases hm with r | r | r | r <;> rw [r] <;> decide), if_neg (by rcases hm with r | r | r | r <;> rw [r] <;> decide)]
    by_cases f1 : d_fam c = 1
    · rw [if_pos f1]
      refine fin _ (s_wide c (mL M 16 0 (k + 1)) (sv M s) (mI M 7 0 7)) (by rw [f1]; decide) (by unfold s_do; rw [if_pos f1]) ?_
      obtain ⟨M1, r, q1, q2, q3⟩ := st_wide hW uW (k := k) (n := n) (by rw [IW]; exact ha) (by rw [IW]; exact hn) (hkn f1) hn2 (by rw [hWd, stw_k (by decide)]; exact hR) (by rw [hWd]; exact hZ)
      rw [q1, b2_some]
      rw [svW, IW, LW] at q3
      exact ⟨M1, r, rfl, q2, q3⟩
    rw [if_neg f1]
    by_cases f2 : d_fam c = 2
    · rw [if_pos f2]; exact fin _ _ (by rw [f2]; decide) (do_mem (Or.inl f2)) memc
    rw [if_neg f2]
    by_cases f3 : d_fam c = 3
    · rw [if_pos f3]; exact fin _ _ (by rw [f3]; decide) (do_mem (Or.inr (Or.inl f3))) memc
    rw [if_neg f3]
    by_cases f4 : d_fam c = 4
    · rw [if_pos f4]; exact fin _ _ (by rw [f4]; decide) (do_mem (Or.inr (Or.inr (Or.inl f4)))) memc
    rw [if_neg f4]
    by_cases f5 : d_fam c = 5
    · rw [if_pos f5]; exact fin _ _ (by rw [f5]; decide) (do_mem (Or.inr (Or.inr (Or.inr f5)))) memc
    rw [if_neg f5]
    by_cases f6 : d_fam c = 6
    · rw [if_pos f6]
      refine fin _ (s_arith c (sv M s) (mI M 7 0 7)) (by rw [f6]; decide) (by unfold s_do; rw [if_neg f1, if_pos f6]) ?_
      obtain ⟨M1, r, q1, q2, q3⟩ := st_arith hW uW
      rw [q1, b2_some]
      rw [svW, IW] at q3
      exact ⟨M1, r, rfl, q2, q3⟩
    rw [if_neg f6]
    by_cases f7 : d_fam c = 7
    · rw [if_pos f7]
      refine fin _ (.ok (sv M s, mI M 7 0 7)) (by rw [f7]; decide) (by unfold s_do; rw [if_neg f1, if_neg f6, if_pos f7]) ?_
      exact ⟨W, 0, rfl, tk_refl uW, rfl, fun i _ => by rw [svW], by rw [IW]⟩
    rw [if_neg f7]
    by_cases f8 : d_fam c = 8
    · rw [if_pos f8]
      obtain ⟨op, hop, eop⟩ := fam_c c
      have fr8 : (kd (nI op)).1 = 8 := by rw [← eop]; exact f8
      have t2 := t_rel2 op hop fr8
      have ho : ∃ k, k < 12 ∧ d_opn c = nI k := by
        have e : d_opn c = (kd (nI op)).2.1 := by unfold d_opn; rw [eop]
        rw [e]
        simp only [List.mem_cons, List.not_mem_nil, or_false] at t2
        rcases t2 with r | r | r | r | r | r | r | r | r | r | r
        · exact ⟨0, by decide, r⟩
        · exact ⟨1, by decide, r⟩
        · exact ⟨2, by decide, r⟩
        · exact ⟨3, by decide, r⟩
        · exact ⟨4, by decide, r⟩
        · exact ⟨5, by decide, r⟩
        · exact ⟨6, by decide, r⟩
        · exact ⟨7, by decide, r⟩
        · exact ⟨8, by decide, r⟩
        · exact ⟨9, by decide, r⟩
        · exact ⟨10, by decide, r⟩
      obtain ⟨M1, r, q1, q2, q3⟩ := st_rel hW h4 uW ho
      obtain ⟨w1, w2, w3⟩ := wP_fin uW q2
      rw [svW, IW] at q3
      rw [q1, b2_some]
      exact ⟨M1, r, rfl, w1, fun z => absurd z nu9, fun _ z => absurd f8 z, fun _ _ => ⟨fun i hi => (w3 i hi).trans (by rw [svW]), q3⟩⟩
    rw [if_neg f8]
    by_cases f9 : d_fam c = 9
    · rw [if_pos f9]
      refine fin _ (s_help c kb vb (sv M s) (mI M 7 0 7)) (by rw [f9]; decide) (by unfold s_do; rw [if_neg f1, if_neg f6, if_neg f7, if_pos f9]) ?_
      obtain ⟨M1, r, q1, q2, q3⟩ := st_help hW stW uW wW hk
      rw [q1, b2_some]
      rw [svW, IW] at q3
      exact ⟨M1, r, rfl, q2, q3⟩
    rw [if_neg f9]
    by_cases f10 : d_fam c = 10
    · rw [if_pos f10]
      refine fin _ (if cK (sv M s 0) = 1 then .ok (sv M s, mI M 7 0 7) else .error 18) (by rw [f10]; decide) (by unfold s_do; rw [if_neg f1, if_neg f6, if_neg f7, if_neg f9, if_pos f10]) ?_
      rw [hW.2.2.2.2.2.2.2.2.2.1, bd_some, (hW.2.1.1 s hW.2.2.2.1).2, gd_pos (by decide), hW.2.1.2.1 s 0 hW.2.2.2.1 (by decide), bd_some]
      have ek : mI W 10 (75 * s + 0 + 1) 0 = cK (sv M s 0) := by rw [← svW]; rfl
      rw [ek]
      by_cases k1 : cK (sv M s 0) = 1
      · rw [if_pos k1, if_pos k1]
        exact ⟨W, 0, rfl, tk_refl uW, rfl, fun i _ => by rw [svW], by rw [IW]⟩
      · rw [if_neg k1, if_neg k1]
        exact ⟨W, 18, rfl, tk_refl uW, rfl⟩
    · exfalso
      obtain ⟨op, hop, eop⟩ := fam_c c
      have tf := t_fam op hop
      have e : d_fam c = (kd (nI op)).1 := by unfold d_fam; rw [eop]
      rw [← e] at tf
      simp only [List.mem_cons, List.not_mem_nil, or_false] at tf
      rcases tf with r | r | r | r | r | r | r | r | r | r | r
      · exact hf0 r
      · exact f1 r
      · exact f2 r
      · exact f3 r
      · exact f4 r
      · exact f5 r
      · exact f6 r
      · exact f7 r
      · exact f8 r
      · exact f9 r
      · exact f10 r
  have ten : s_unr c (sv M s) → ∃ M1 r, (some (W, (10 : Int32)) : Option (me_M × Int32)) = some (M1, r) ∧ tk s W M1 ∧ (s_unr c (sv M s) → r = 10) ∧ (¬ s_unr c (sv M s) → ¬ d_fam c = 8 → rs s M1 r (s_do c (mL M 16 0 (k + 1)) kb vb (sv M s) (mI M 7 0 7))) ∧ (¬ s_unr c (sv M s) → d_fam c = 8 → (∀ i, i < 75 → sv M1 s i = sv M s i) ∧ rl M1 r c (sv M s) (mI M 7 0 7) (s_rel c (sv M s))) := fun z => ⟨W, 10, rfl, tk_refl uW, fun _ => rfl, fun q => absurd z q, fun q => absurd z q⟩
  have b45 : ¬ (¬ d_rt c = 0 ∧ cK (sv M s (d_ti c)) = 0) → ∃ M1 r, f_Steps_take_b45 0 W = some (M1, r) ∧ tk s W M1 ∧ (s_unr c (sv M s) → r = 10) ∧ (¬ s_unr c (sv M s) → ¬ d_fam c = 8 → rs s M1 r (s_do c (mL M 16 0 (k + 1)) kb vb (sv M s) (mI M 7 0 7))) ∧ (¬ s_unr c (sv M s) → d_fam c = 8 → (∀ i, i < 75 → sv M1 s i = sv M s i) ∧ rl M1 r c (sv M s) (mI M 7 0 7) (s_rel c (sv M s))) := by
    intro n1
    unfold f_Steps_take_b45 f_Steps_take_b46
    rw [if_pos rfl, hW.2.2.2.2.1, bd_some, l11]
    by_cases g : d_rf c = 0
    · rw [if_pos g]
      exact b82 (fun z => z.elim n1 (fun q => q.1 g))
    · rw [if_neg g, hW.2.2.2.2.2.2.2.2.2.1, bd_some, l3, e3, (hW.2.1.1 s hW.2.2.2.1).2, gd_pos (ix_ok (by omega) (by decide)), nI_tn (by omega), hW.2.1.2.1 s f hW.2.2.2.1 (by omega), bd_some]
      have ek : mI W 10 (75 * s + f + 1) 0 = cK (sv M s (d_fi c)) := by rw [← svW, e4]; rfl
      rw [ek]
      by_cases g2 : cK (sv M s (d_fi c)) = 0
      · rw [if_pos g2]; exact ten (Or.inr ⟨g, g2⟩)
      · rw [if_neg g2]; exact b82 (fun z => z.elim n1 (fun q => g2 q.2))
  by_cases g : d_rt c = 0
  · rw [if_pos g]
    exact b45 (fun z => z.1 g)
  · rw [if_neg g, hW.2.2.2.2.2.2.2.2.2.1, bd_some, l2, e1, (h.2.1.1 s hs).2, gd_pos (ix_ok (by omega) (by decide)), nI_tn (by omega), hW.2.1.2.1 s t hW.2.2.2.1 (by omega), bd_some]
    have ek : mI W 10 (75 * s + t + 1) 0 = cK (sv M s (d_ti c)) := by rw [← svW, e2]; rfl
    rw [ek]
    by_cases g2 : cK (sv M s (d_ti c)) = 0
    · rw [if_pos g2]
      unfold f_Steps_take_b46
      rw [if_neg (by decide)]
      exact ten (Or.inl ⟨g, g2⟩)
    · rw [if_neg g2]
      exact b45 (fun z => g2 z.2)
end CT
