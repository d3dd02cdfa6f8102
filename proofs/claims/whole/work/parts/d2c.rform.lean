/-! PURE: the reference finds the faults of form. -/
def rB (p : Nat → Int64) (n nm : Nat) (N : me_M) : Prop := ps_M N ∧ mI N 1 0 12 = nI n ∧ mI N 1 0 3 = nI nm ∧ ∀ s, s < n → mL N 16 0 s = p s
def fA (k j f : Nat) : Prop := (k = 1 ∧ j = 0 ∧ f = 21) ∨ (k = 15 ∧ (j = 3 ∨ j = 4))
abbrev gF (M M1 : me_M) : Prop := gf fA nL M M1
section RFO
variable {p : Nat → Int64} {n nm : Nat} {M N N1 : me_M} {c : Int64}
theorem rB_f (h : rB p n nm M) (g : gF M N) : rB p n nm N := by
  obtain ⟨h1, h2, h3, h4⟩ := h
  refine ⟨gf_ps g h1, ?_, ?_, fun s hs => ?_⟩
  · rw [g.2.2.2.1 1 0 12 (by rintro (z | z) <;> omega)]; exact h2
  · rw [g.2.2.2.1 1 0 3 (by rintro (z | z) <;> omega)]; exact h3
  · rw [g.2.2.2.2 16 0 s (fun z => z)]; exact h4 s hs
theorem gF_21 {v : Int32} : gF M (wI M 1 0 21 v) := gf_I (Or.inl ⟨rfl, rfl, rfl⟩)
theorem gF_15 {j f : Nat} {v : Int32} (h : j = 3 ∨ j = 4) : gF M (wI M 15 j f v) := gf_I (Or.inr ⟨rfl, h⟩)
theorem kri_f : (k_ri (d_op c) = 1 ↔ d_fam c = 1) ∧ (k_ri (d_op c) = 10 ↔ d_fam c = 7) ∧ (k_ri (d_op c) = 11 ↔ d_fam c = 8) ∧ (k_ri (d_op c) = 13 ↔ d_fam c = 10) := by
  obtain ⟨op, hop, eop⟩ := fam_c c
  have := (show ∀ n, n < 256 → (k_ri (nI n) = 1 ↔ (kd (nI n)).1 = 1) ∧ (k_ri (nI n) = 10 ↔ (kd (nI n)).1 = 7) ∧ (k_ri (nI n) = 11 ↔ (kd (nI n)).1 = 8) ∧ (k_ri (nI n) = 13 ↔ (kd (nI n)).1 = 10) by decide +kernel) op hop
  rw [← eop] at this
  exact this
theorem r_ins : f_M_instruction (d_op c) = some (k_ri (d_op c)) := by
  obtain ⟨op, hop, eop⟩ := fam_c c
  rw [eop]
  exact (t_in op hop).1
theorem flt_pos {w : Int64} {l : Prop} {m : Int32} (h : ¬ f_flt c w l m = 0) : 0 < f_flt c w l m := by
  have key : ∀ (P : Prop) (a b : Int32), (a = 0 ∨ 0 < a) → (b = 0 ∨ 0 < b) → (ic P a b = 0 ∨ 0 < ic P a b) := by
    intro P a b ha hb
    by_cases g : P
    · rw [ic_t g]; exact ha
    · rw [ic_f g]; exact hb
  have : f_flt c w l m = 0 ∨ 0 < f_flt c w l m := by
    unfold f_flt
    exact key _ _ _ (key _ _ _ (Or.inr (by decide)) (key _ _ _ (Or.inr (by decide)) (key _ _ _ (Or.inr (by decide)) (key _ _ _ (Or.inr (by decide)) (Or.inl rfl))))) (Or.inr (by decide))
  exact this.elim (fun z => absurd z h) id
theorem rpass2 (hn : n ≤ 2000) {last : Nat} (hl : last < n) : ∀ (k y fu : Nat) (N : me_M), y + k = n → k < fu → gF M N → rB p n nm N → (∀ t, t < n → mI N 15 3 t = b1 (f_sec p t)) → (∀ t, t < n → mI N 15 4 t = b1 (f_mk p y t)) → ∃ N1 r, f_M_form_l97 0 (nI n) fu N (nI last) (nI y) = some (N1, r) ∧ gF M N1 ∧ ((r = (f_p2 p n (k + 1) y).1 ∧ ¬ r = 0 ∧ mI N1 1 0 21 = nI (f_p2 p n (k + 1) y).2) ∨ ((f_p2 p n (k + 1) y).1 = 0 ∧ ((d_fam (p last) = 10 ∨ d_fam (p last) = 7) → r = 0 ∧ (∀ t, t < n → mI N1 15 3 t = b1 (f_sec p t)) ∧ ∀ t, t < n → mI N1 15 4 t = b1 (f_mk p n t)) ∧ (¬ (d_fam (p last) = 10 ∨ d_fam (p last) = 7) → r = 6 ∧ mI N1 1 0 21 = nI last))) := by
  intro k
  induction k with
  | zero =>
    intro y fu N e hf g hB hs hm
    obtain ⟨fu, rfl⟩ : ∃ f, fu = f + 1 := ⟨fu - 1, by omega⟩
    have ey : y = n := by omega
    obtain ⟨b1', b2', b3', b4'⟩ := hB
    have p2 : (f_p2 p n (0 + 1) y).1 = 0 := by rw [f_p2, if_pos (show n ≤ y by omega)]
    rw [f_M_form_l97, if_pos (show nI n ≤ nI y from (nI_lei (by omega) (by omega)).mpr (by omega)), st_eq, rs_13 b1', bd_some, rz_16_0 b1', gd_pos (ix_ok (by omega) (by decide)), nI_tn (by omega), pL_I, b4' _ hl, r_op, bd_some, r_ins, bd_some]
    have g2 : gF M (wI N 1 0 21 (nI last)) := gf_trans g gF_21
    have good : (∀ t, t < n → mI (wI N 1 0 21 (nI last)) 15 3 t = b1 (f_sec p t)) ∧ ∀ t, t < n → mI (wI N 1 0 21 (nI last)) 15 4 t = b1 (f_mk p n t) := ⟨fun t ht => by rw [wI_j (by decide)]; exact hs t ht, fun t ht => by rw [wI_j (by decide), ← ey]; exact hm t ht⟩
    obtain ⟨_, k10, _, k13⟩ := kri_f (c := p last)
    by_cases f10 : d_fam (p last) = 10
    · rw [if_pos (k13.mpr f10)]
      exact ⟨_, 0, rfl, g2, Or.inr ⟨p2, fun _ => ⟨rfl, good⟩, fun z => absurd (Or.inl f10) z⟩⟩
    rw [if_neg (fun z => f10 (k13.mp z))]
    by_cases f7 : d_fam (p last) = 7
    · rw [if_pos (k10.mpr f7)]
      exact ⟨_, 0, rfl, g2, Or.inr ⟨p2, fun _ => ⟨rfl, good⟩, fun z => absurd (Or.inr f7) z⟩⟩
    rw [if_neg (fun z => f7 (k10.mp z))]
    exact ⟨_, _, rfl, g2, Or.inr ⟨p2, fun z => (z.elim f10 f7).elim, fun _ => ⟨rfl, pI_same⟩⟩⟩
  | succ k ih =>
    intro y fu N e hf g hB hs hm
    obtain ⟨fu, rfl⟩ : ∃ f, fu = f + 1 := ⟨fu - 1, by omega⟩
    have hy : y < n := by omega
    obtain ⟨b1', b2', b3', b4'⟩ := hB
    rw [f_M_form_l97, if_neg (show ¬ nI n ≤ nI y from fun z => by have := (nI_lei (by omega) (by omega)).mp z; omega), rs_32 b1', bd_some, rz_15_3 b1', gd_pos (ix_ok (by omega) (by decide)), nI_tn (by omega), hs y hy, f_p2, if_neg (show ¬ n ≤ y by omega)]
    have nxt : ¬ f_jmp p y → ∃ N1 r, f_M_form_l97 0 (nI n) fu N (nI last) (nI y + 1) = some (N1, r) ∧ gF M N1 ∧ ((r = (ic (f_jmp p y ∧ ¬ f_tok p n y) (5, y) (f_p2 p n (k + 1) (y + 1))).1 ∧ ¬ r = 0 ∧ mI N1 1 0 21 = nI (ic (f_jmp p y ∧ ¬ f_tok p n y) (5, y) (f_p2 p n (k + 1) (y + 1))).2) ∨ ((ic (f_jmp p y ∧ ¬ f_tok p n y) (5, y) (f_p2 p n (k + 1) (y + 1))).1 = 0 ∧ ((d_fam (p last) = 10 ∨ d_fam (p last) = 7) → r = 0 ∧ (∀ t, t < n → mI N1 15 3 t = b1 (f_sec p t)) ∧ ∀ t, t < n → mI N1 15 4 t = b1 (f_mk p n t)) ∧ (¬ (d_fam (p last) = 10 ∨ d_fam (p last) = 7) → r = 6 ∧ mI N1 1 0 21 = nI last))) := by
      intro nj
      rw [ic_f (fun z => nj z.1), nI_s]
      refine ih (y + 1) fu N (by omega) (by omega) g ⟨b1', b2', b3', b4'⟩ hs (fun t ht => ?_)
      rw [hm t ht]
      refine b1_c ⟨fun z => ?_, fun z => ?_⟩
      · obtain ⟨s, a, b⟩ := z; exact ⟨s, by omega, b⟩
      · obtain ⟨s, a, b, c⟩ := z
        refine ⟨s, ?_, b, c⟩
        rcases Nat.lt_or_ge s y with r | r
        · exact r
        · rw [show s = y by omega] at b; exact absurd b nj
    obtain ⟨_, k10, k11, _⟩ := kri_f (c := p y)
    unfold f_M_form_b127
    by_cases sy : f_sec p y
    · rw [if_neg (b1_n0 sy), if_neg (by decide), if_neg (by decide)]
      exact nxt (fun z => z.1 sy)
    rw [if_pos (b1_f sy), rs_13 b1', bd_some, rz_16_0 b1', gd_pos (ix_t (by omega) (by decide)), b4' _ hy, r_op, bd_some, r_ins, bd_some]
    have jmp : (d_fam (p y) = 7 ∨ d_fam (p y) = 8) → ∃ N1 r, f_M_form_b146 (f_M_form_l97 0 (nI n) fu) 0 (nI n) N (nI last) (nI y) = some (N1, r) ∧ gF M N1 ∧ ((r = (ic (f_jmp p y ∧ ¬ f_tok p n y) (5, y) (f_p2 p n (k + 1) (y + 1))).1 ∧ ¬ r = 0 ∧ mI N1 1 0 21 = nI (ic (f_jmp p y ∧ ¬ f_tok p n y) (5, y) (f_p2 p n (k + 1) (y + 1))).2) ∨ ((ic (f_jmp p y ∧ ¬ f_tok p n y) (5, y) (f_p2 p n (k + 1) (y + 1))).1 = 0 ∧ ((d_fam (p last) = 10 ∨ d_fam (p last) = 7) → r = 0 ∧ (∀ t, t < n → mI N1 15 3 t = b1 (f_sec p t)) ∧ ∀ t, t < n → mI N1 15 4 t = b1 (f_mk p n t)) ∧ (¬ (d_fam (p last) = 10 ∨ d_fam (p last) = 7) → r = 6 ∧ mI N1 1 0 21 = nI last))) := by
      intro f78
      have J : f_jmp p y := ⟨sy, f78⟩
      unfold f_M_form_b146
      rw [st_eq, rs_13 b1', bd_some, rz_16_0 b1', gd_pos (ix_ok (by omega) (by decide)), nI_tn (by omega), pL_I, b4' _ hy, r_off, bd_some, st_eq]
      show ∃ N1 r, (if f_to p y < 0 then _ else (if nI n ≤ f_to p y then _ else _)) = some (N1, r) ∧ _
      have g2 : gF M (wI N 1 0 21 (nI y)) := gf_trans g gF_21
      have bad : ¬ f_tok p n y → ∃ N1 r, some (wI N 1 0 21 (nI y), (5 : Int32)) = some (N1, r) ∧ gF M N1 ∧ ((r = (ic (f_jmp p y ∧ ¬ f_tok p n y) (5, y) (f_p2 p n (k + 1) (y + 1))).1 ∧ ¬ r = 0 ∧ mI N1 1 0 21 = nI (ic (f_jmp p y ∧ ¬ f_tok p n y) (5, y) (f_p2 p n (k + 1) (y + 1))).2) ∨ ((ic (f_jmp p y ∧ ¬ f_tok p n y) (5, y) (f_p2 p n (k + 1) (y + 1))).1 = 0 ∧ ((d_fam (p last) = 10 ∨ d_fam (p last) = 7) → r = 0 ∧ (∀ t, t < n → mI N1 15 3 t = b1 (f_sec p t)) ∧ ∀ t, t < n → mI N1 15 4 t = b1 (f_mk p n t)) ∧ (¬ (d_fam (p last) = 10 ∨ d_fam (p last) = 7) → r = 6 ∧ mI N1 1 0 21 = nI last))) := by
        intro nt
        rw [ic_t ⟨J, nt⟩]
        exact ⟨_, _, rfl, g2, Or.inl ⟨rfl, by decide, pI_same⟩⟩
      by_cases a : f_to p y < 0
      · rw [if_pos a]
        exact bad (fun z => z.1 a)
      rw [if_neg a]
      by_cases b : nI n ≤ f_to p y
      · rw [if_pos b]
        exact bad (fun z => z.2.1 b)
      have et := tc_nI a
      have bt' : (f_to p y).toNatClampNeg < 2147483648 := by
        have e : (f_to p y).toNatClampNeg = (f_to p y).toInt.toNat := rfl
        have := Int32.toInt_lt (f_to p y)
        omega
      have lt : (f_to p y).toNatClampNeg < n := by
        have b2 := b
        rw [et] at b2
        have : ¬ n ≤ (f_to p y).toNatClampNeg := fun z => b2 ((nI_lei (by omega) bt').mpr z)
        omega
      rw [if_neg b, rs_32 b1', bd_some, if_neg a, if_neg b, rz_15_3 b1', gd_pos (show ¬ (f_to p y < 0 ∨ 2000 ≤ (f_to p y).toNatClampNeg) from fun z => z.elim a (fun q => by omega)), wI_j (by decide), hs _ lt]
      by_cases sec : f_sec p (f_to p y).toNatClampNeg
      · rw [if_neg (b1_n0 sec)]
        exact bad (fun z => z.2.2 sec)
      rw [if_pos (b1_f sec), rs_33 b1', bd_some, rz_15_4 b1', gd_pos (show ¬ (f_to p y < 0 ∨ 2000 ≤ (f_to p y).toNatClampNeg) from fun z => z.elim a (fun q => by omega)), st_eq, ic_f (fun z => z.2 ⟨a, b, sec⟩), show f_M_form_l97 0 (nI n) fu (wI (wI N 1 0 21 (nI y)) 15 4 (f_to p y).toNatClampNeg (vp_nar .boolean (1 : Int32))) (nI last) (nI y + 1) = f_M_form_l97 0 (nI n) fu (wI (wI N 1 0 21 (nI y)) 15 4 (f_to p y).toNatClampNeg (vp_nar .boolean (1 : Int32))) (nI last) (nI (y + 1)) by rw [nI_s y]]
      refine ih (y + 1) fu _ (by omega) (by omega) (gf_trans g2 (gF_15 (Or.inr rfl))) (rB_f ⟨b1', b2', b3', b4'⟩ (gf_trans gF_21 (gF_15 (Or.inr rfl)))) (fun t ht => by rw [wI_j (by decide), wI_j (by decide)]; exact hs t ht) (fun t ht => ?_)
      by_cases e2 : t = (f_to p y).toNatClampNeg
      · rw [e2, pI_same]
        exact b1_1 ⟨y, by omega, J, rfl⟩
      · rw [pI_place e2, wI_j (by decide), hm t ht]
        refine b1_c ⟨fun z => ?_, fun z => ?_⟩
        · obtain ⟨s, a, b⟩ := z; exact ⟨s, by omega, b⟩
        · obtain ⟨s, a, b, c⟩ := z
          refine ⟨s, ?_, b, c⟩
          rcases Nat.lt_or_ge s y with r | r
          · exact r
          · rw [show s = y by omega] at c; exact absurd c.symm e2
    by_cases f7 : d_fam (p y) = 7
    · rw [if_pos (k10.mpr f7)]
      exact jmp (Or.inl f7)
    rw [if_neg (fun z => f7 (k10.mp z))]
    by_cases f8 : d_fam (p y) = 8
    · rw [if_pos (k11.mpr f8)]
      exact jmp (Or.inr f8)
    rw [if_neg (fun z => f8 (k11.mp z))]
    exact nxt (fun z => z.2.elim f7 f8)
def rFo (p : Nat → Int64) (n : Nat) (M N1 : me_M) (r : Int32) (a b : Int32 × Nat) : Prop := gF M N1 ∧ ((¬ a.1 = 0 ∧ r = a.1 ∧ mI N1 1 0 21 = nI a.2) ∨ (a.1 = 0 ∧ ((r = b.1 ∧ ¬ r = 0 ∧ mI N1 1 0 21 = nI b.2) ∨ (b.1 = 0 ∧ ((d_fam (p a.2) = 10 ∨ d_fam (p a.2) = 7) → r = 0 ∧ (∀ t, t < n → mI N1 15 3 t = b1 (f_sec p t)) ∧ ∀ t, t < n → mI N1 15 4 t = b1 (f_mk p n t)) ∧ (¬ (d_fam (p a.2) = 10 ∨ d_fam (p a.2) = 7) → r = 6 ∧ mI N1 1 0 21 = nI a.2)))))
theorem rpass1 (hn : n ≤ 2000) (h0 : 0 < n) (hm4 : nm ≤ 4) : ∀ (k y last fu fv : Nat) (N : me_M), y + k = n → k < fu → k < fv → (y = 0 ∨ last < y) → ¬ f_sec p y → (y = 0 → last = 0) → gF M N → rB p n nm N → (∀ t, t < n → mI N 15 3 t = b1 (f_sec p t ∧ t ≤ y)) → (∀ t, t < n → mI N 15 4 t = 0) → ∃ N1 r, f_M_form_l36 0 (nI n) fu N (nI last) (nI y) = some (N1, r) ∧ rFo p n M N1 r (f_p1 p n (nI nm) fv y last) (f_p2 p n (n + 1) 0) := by
  intro k
  induction k using Nat.strongRecOn with
  | ind k ih =>
    intro y last fu fv N e hf hv hl ns hl0 g hB hs hm
    obtain ⟨fu, rfl⟩ : ∃ f, fu = f + 1 := ⟨fu - 1, by omega⟩
    obtain ⟨fv, rfl⟩ : ∃ f, fv = f + 1 := ⟨fv - 1, by omega⟩
    rw [f_M_form_l36, f_p1]
    by_cases ge : n ≤ y
    · rw [if_pos (show nI n ≤ nI y from (nI_lei (by omega) (by omega)).mpr ge), if_pos ge]
      have hl2 : last < n := by omega
      obtain ⟨N1, r, q1, q2, q3⟩ := rpass2 (M := M) (p := p) hn hl2 n 0 fuel N (by omega) (by unfold fuel; omega) g hB (fun t ht => by
        rw [hs t ht]
        exact b1_c ⟨fun z => z.1, fun z => ⟨z, by omega⟩⟩) (fun t ht => by
        rw [hm t ht, b1_f (fun z => by obtain ⟨s, a, _⟩ := z; omega)])
      exact ⟨N1, r, q1, q2, Or.inr ⟨rfl, q3⟩⟩
    have hy : y < n := by omega
    rw [if_neg (show ¬ nI n ≤ nI y from fun z => by have := (nI_lei (by omega) (by omega)).mp z; omega), if_neg ge, st_eq]
    obtain ⟨A, hA⟩ : ∃ A, A = wI N 1 0 21 (nI y) := ⟨_, rfl⟩
    rw [← hA]
    have gA : gF M A := by rw [hA]; exact gf_trans g gF_21
    have bA : rB p n nm A := by rw [hA]; exact rB_f hB gF_21
    obtain ⟨b1', b2', b3', b4'⟩ := bA
    have a21 : mI A 1 0 21 = nI y := by rw [hA, pI_same]
    have hsA : ∀ t, t < n → mI A 15 3 t = b1 (f_sec p t ∧ t ≤ y) := fun t ht => by rw [hA, wI_j (by decide)]; exact hs t ht
    have hmA : ∀ t, t < n → mI A 15 4 t = 0 := fun t ht => by rw [hA, wI_j (by decide)]; exact hm t ht
    have ef : f_flt (p y) (mL A 16 0 (y + 1)) (y + 1 < n) (nI nm) = f_flt (p y) (p (y + 1)) (y + 1 < n) (nI nm) := by
      by_cases l : y + 1 < n
      · rw [b4' _ l]
      · exact flt_w l
    rw [r_flt b1' (b4' y hy) b2' hy hn b3' hm4, b2_some, ef]
    by_cases f : f_flt (p y) (p (y + 1)) (y + 1 < n) (nI nm) = 0
    · rw [if_pos (show f_flt (p y) (p (y + 1)) (y + 1 < n) (nI nm) ≤ 0 by rw [f]; decide), if_pos f, rs_13 hB.1, bd_some, rz_16_0 hB.1, gd_pos (ix_ok (by omega) (by decide)), nI_tn (by omega), b4' y hy, r_op, bd_some, r_ins, bd_some]
      obtain ⟨k1, _⟩ := kri_f (c := p y)
      by_cases f1 : d_fam (p y) = 1
      · have lt : y + 1 < n := shp_l (flt_1 f) f1
        obtain ⟨s1, s2⟩ := sec_2 ns f1
        rw [if_pos (k1.mpr f1), if_pos f1, rs_32 hB.1, bd_some, nI_s, rz_15_3 hB.1, gd_pos (ix_ok (by omega) (by decide)), nI_tn (by omega), st_eq, nI_s]
        refine ih (k - 2) (by omega) (y + 2) y fu fv _ (by omega) (by omega) (by omega) (Or.inr (by omega)) s2 (fun z => by omega) (gf_trans gA (gF_15 (Or.inl rfl))) (rB_f ⟨b1', b2', b3', b4'⟩ (gF_15 (Or.inl rfl))) (fun t ht => ?_) (fun t ht => by rw [wI_j (by decide)]; exact hmA t ht)
        by_cases e1 : t = y + 1
        · rw [e1, pI_same]
          exact b1_1 ⟨s1, by omega⟩
        · rw [pI_place e1, hsA t ht]
          refine b1_c ⟨fun z => ⟨z.1, by omega⟩, fun z => ⟨z.1, ?_⟩⟩
          by_cases e2 : t = y + 2
          · rw [e2] at z; exact absurd z.1 s2
          · have := z.2; omega
      · rw [if_neg (fun z => f1 (k1.mp z)), if_neg f1, nI_s]
        refine ih (k - 1) (by omega) (y + 1) y fu fv _ (by omega) (by omega) (by omega) (Or.inr (by omega)) (sec_1 f1) (fun z => by omega) gA ⟨b1', b2', b3', b4'⟩ (fun t ht => ?_) hmA
        rw [hsA t ht]
        refine b1_c ⟨fun z => ⟨z.1, by omega⟩, fun z => ⟨z.1, ?_⟩⟩
        by_cases e2 : t = y + 1
        · rw [e2] at z; exact absurd z.1 (sec_1 f1)
        · have := z.2; omega
    · have pos := flt_pos f
      rw [if_neg (fun z => by
        rw [Int32.lt_iff_toInt_lt] at pos
        rw [Int32.le_iff_toInt_le] at z
        omega), if_neg f]
      exact ⟨_, _, rfl, gA, Or.inl ⟨f, rfl, a21⟩⟩
theorem rclear (hn : n ≤ 2000) (h0 : 0 < n) (hm4 : nm ≤ 4) : ∀ (k y fu : Nat) (N : me_M), y + k = n → k < fu → gF M N → rB p n nm N → (∀ t, t < y → mI N 15 3 t = 0 ∧ mI N 15 4 t = 0) → ∃ N1 r, f_M_form_l7 0 (nI n) fu N (nI y) = some (N1, r) ∧ rFo p n M N1 r (f_p1 p n (nI nm) (n + 1) 0 0) (f_p2 p n (n + 1) 0) := by
  intro k
  induction k with
  | zero =>
    intro y fu N e hf g hB hs
    obtain ⟨fu, rfl⟩ : ∃ f, fu = f + 1 := ⟨fu - 1, by omega⟩
    rw [f_M_form_l7, if_pos (show nI n ≤ nI y from (nI_lei (by omega) (by omega)).mpr (by omega))]
    exact rpass1 (M := M) (p := p) hn h0 hm4 n 0 0 fuel (n + 1) N (by omega) (by unfold fuel; omega) (by omega) (Or.inl rfl) (fun z => z) (fun _ => rfl) g hB (fun t ht => by
      rw [(hs t (by omega)).1, b1_f (fun z => by
        have e : t = 0 := by have := z.2; omega
        rw [e] at z
        exact z.1)]) (fun t ht => (hs t (by omega)).2)
  | succ k ih =>
    intro y fu N e hf g hB hs
    obtain ⟨fu, rfl⟩ : ∃ f, fu = f + 1 := ⟨fu - 1, by omega⟩
    rw [f_M_form_l7, if_neg (show ¬ nI n ≤ nI y from fun z => by have := (nI_lei (by omega) (by omega)).mp z; omega), rs_32 hB.1, bd_some, rz_15_3 hB.1, gd_pos (ix_ok (by omega) (by decide)), nI_tn (by omega), st_eq, rs_33 hB.1, bd_some, rz_15_4 hB.1, gd_pos (ix_t (by omega) (by decide)), st_eq, nI_s]
    refine ih (y + 1) fu _ (by omega) (by omega) (gf_trans g (gf_trans (gF_15 (Or.inl rfl)) (gF_15 (Or.inr rfl)))) (rB_f hB (gf_trans (gF_15 (Or.inl rfl)) (gF_15 (Or.inr rfl)))) (fun t ht => ?_)
    by_cases e1 : t = y
    · rw [e1, wI_j (by decide), pI_same, pI_same]
      exact ⟨rfl, rfl⟩
    · rw [wI_j (by decide), pI_place e1, pI_place e1, wI_j (by decide)]
      exact hs t (by omega)
theorem rform (hn : n ≤ 2000) (h0 : 0 < n) (hm4 : nm ≤ 4) (hM : ps_M M) (hm : mI M 1 0 3 = nI nm) (hp : ∀ s, s < n → mL M 16 0 s = p s) : ∃ N1, f_M_form M 0 (nI n) = some (N1, (f_form p n (nI nm)).1) ∧ gF (wI M 1 0 12 (nI n)) N1 ∧ (¬ (f_form p n (nI nm)).1 = 0 → mI N1 1 0 21 = nI (f_form p n (nI nm)).2) ∧ ((f_form p n (nI nm)).1 = 0 → (∀ t, t < n → mI N1 15 3 t = b1 (f_sec p t)) ∧ ∀ t, t < n → mI N1 15 4 t = b1 (f_mk p n t)) := by
  unfold f_M_form
  rw [st_eq]
  obtain ⟨N1, r, q1, q2, q3⟩ := rclear (M := wI M 1 0 12 (nI n)) (p := p) hn h0 hm4 n 0 fuel (wI M 1 0 12 (nI n)) (by omega) (by unfold fuel; omega) gf_refl ⟨ps_W hM, pI_same, by rw [pI_place (by decide)]; exact hm, hp⟩ (fun t ht => by omega)
  rw [show f_M_form_l7 0 (nI n) fuel (wI M 1 0 12 (nI n)) (0 : Int32) = some (N1, r) from q1]
  unfold f_form
  rcases q3 with ⟨a1, a2, a3⟩ | ⟨a1, ⟨b1', b2', b3'⟩ | ⟨b1', b2', b3'⟩⟩
  · rw [if_neg a1, a2]
    exact ⟨N1, rfl, q2, fun _ => a3, fun z => absurd z a1⟩
  · rw [if_pos a1, if_neg (by rw [← b1']; exact b2'), b1']
    exact ⟨N1, rfl, q2, fun _ => b3', fun z => absurd (b1'.trans z) b2'⟩
  · rw [if_pos a1, if_pos b1']
    by_cases c : (d_fam (p (f_p1 p n (nI nm) (n + 1) 0 0).2) = 10 ∨ d_fam (p (f_p1 p n (nI nm) (n + 1) 0 0).2) = 7)
    · rw [if_pos c, (b2' c).1]
      exact ⟨N1, rfl, q2, fun z => absurd rfl z, fun _ => (b2' c).2⟩
    · rw [if_neg c, (b3' c).1]
      exact ⟨N1, rfl, q2, fun _ => (b3' c).2, fun z => absurd z (by decide : ¬ (6 : Int32) = 0)⟩
end RFO
