/-! PURE: put. -/
section JPU
variable {M R : me_M} {x y : Int32}
/-- the tape is emptied, all else is the same -/
theorem tape_c {nm g tn jt : Nat} {tb : Nat → Prop} {kb vb : Int32 → Int32} {en jk jv jh : Nat → Nat} {W : tyU} (hc : cI_ nm g tn jt tb kb vb en jk jv jh W M) (hr : rI_ nm tn tb kb vb en W R) (hb : bI_ nm tn jt tb kb vb en W M R) (hp : pI_ nm kb vb M R) : cI_ nm g 0 jt tb kb vb en jk jv jh W (wI M 0 0 1 0) ∧ rI_ nm 0 tb kb vb en W (wI R 1 0 2 0) ∧ bI_ nm 0 jt tb kb vb en W (wI M 0 0 1 0) (wI R 1 0 2 0) ∧ pI_ nm kb vb (wI M 0 0 1 0) (wI R 1 0 2 0) := by
  obtain ⟨r1, r2, r3, ⟨r4, r5⟩, r6⟩ := hr
  obtain ⟨b1, b2, ⟨b3, b4, b5, b6⟩, b7, b8⟩ := hb
  have e : ∀ k j, ¬ k = 1 → mI (wI R 1 0 2 0) k j = mI R k j := fun k j hk => wI_o (fun z => hk z.1)
  have f : ∀ k j, ¬ k = 0 → mI (wI M 0 0 1 0) k j = mI M k j := fun k j hk => wI_o (fun z => hk z.1)
  refine ⟨?_, ⟨ps_M_of rfl rfl r1, ?_, ?_, ⟨?_, ?_⟩, ?_⟩, ⟨b1, fun b hb => by omega, ⟨?_, ?_, ?_, ?_⟩, ?_, ?_⟩, ?_⟩
  · refine cI_k hc (cWr_k hc.2.1 hc.2.2.1 rfl (fun _ _ _ _ => rfl) (fun m => f 12 m (by decide)) (fun j _ => f 14 j (by decide)) (fun j _ => f 15 j (by decide)) ⟨by rw [f 5 0 (by decide)], by rw [f 5 0 (by decide)]⟩ ⟨rfl, rfl⟩) rfl rfl (fun _ _ _ _ => rfl) ⟨by rw [f 13 3 (by decide)], by rw [f 13 4 (by decide)]⟩ (us_all hc (fun j => f 10 j (by decide)) (fun j => f 9 j (by decide)) (fun _ => rfl)) (pI_place (by decide)) pI_same (by omega)
  · unfold kv; rw [e 14 8 (by decide)]; exact r2
  · obtain ⟨s1, s2, s3, s4⟩ := r3
    refine ⟨?_, ?_, ?_, ?_⟩
    · unfold rSh at s1 ⊢
      rw [e 13 0 (by decide), e 13 1 (by decide), e 13 2 (by decide), e 13 3 (by decide)]
      exact s1
    · rw [pL_I, e 14 5 (by decide), e 14 3 (by decide), pI_place (by decide), pI_place (by decide)]
      exact s2
    · rw [e 15 0 (by decide), e 14 1 (by decide), e 14 2 (by decide)]
      exact s3
    · rw [e 14 4 (by decide)]
      exact s4
  · rw [pI_place (by decide)]; exact r4
  · rw [pI_same]; rfl
  · rw [e 15 0 (by decide)]; exact r6
  · rw [f 5 0 (by decide), pI_place (by decide)]; exact b3
  · rw [f 5 0 (by decide), pI_place (by decide)]; exact b4
  · rw [f 5 0 (by decide), pI_place (by decide)]; exact b5
  · rw [f 5 0 (by decide), pI_place (by decide)]; exact b6
  · rw [pI_place (by decide), pI_place (by decide)]; exact b7
  · rw [pI_place (by decide)]; exact b8
  · rcases hp with ⟨z1, z2, z3, z4, z5⟩ | ⟨p, n, B, gg, z1, z2, z3, z4⟩
    · exact Or.inl ⟨by rw [pI_place (by decide)]; exact z1, by rw [pI_place (by decide)]; exact z2, by rw [pI_place (by decide)]; exact z3, by rw [pI_place (by decide)]; exact z4, by rw [f 2 0 (by decide)]; exact z5⟩
    · exact Or.inr ⟨p, n, B, gg, z1, cPr_k z2 (fun q a b => pI_place (by omega)) (fun j => by rw [f 2 j (by decide)]) (fun q => by rw [f 4 0 (by decide)]) (fun j _ => f 13 j (by decide)) (fun j _ => f 15 j (by decide)) (fun _ _ => rfl), rPr_k z3 (fun q hq => pI_place (by omega)) (fun j _ => e 13 j (by decide)) (fun j _ => e 15 j (by decide)) (fun _ _ => rfl), fun q => ⟨(z4 q).1, by rw [pI_place (by decide)]; exact (z4 q).2⟩⟩
theorem rput_k {T : Nat → Int32} {nm m K : Nat} {mkb : Int32} (hK : mI R 13 1 m = nI K) (hK2 : K ≤ 64) (hm : m < 4) (hp : ps_M R) (hT : ∀ a, mI R 14 0 a = T a) (hB : ∀ a, a < K → isB (T a)) : ∀ (k b fu : Nat) (N : me_M), b + k = K → k < fu → gf (fun k j _ => k = 14 ∧ j = 6) (fun _ _ _ => False) R N → (∀ c, c < b → mI N 14 6 c = T c) → ∃ N1, f_M_put_l84 0 (nI m) fu N (nI b) = f_M_put_l114 0 (nI m) fuel N1 0 ∧ gf (fun k j _ => k = 14 ∧ j = 6) (fun _ _ _ => False) R N1 ∧ ∀ c, c < K → mI N1 14 6 c = T c := by
  intro k
  induction k with
  | zero =>
    intro b fu N e hf gN h3
    obtain ⟨fu, rfl⟩ : ∃ f, fu = f + 1 := ⟨fu - 1, by omega⟩
    have hN := gf_ps gN hp
    rw [f_M_put_l84, rs_6 hN, bd_some, rz_13_1 hN, nI_tn (by omega), gd_pos (ix_t (by omega) (by decide)), gN.2.2.2.1 13 1 m (fun z => absurd z.1 (by decide)), hK, if_pos ((nI_lei (by omega) (by omega)).mpr (by omega))]
    rw [show b = K by omega] at h3
    exact ⟨N, rfl, gN, h3⟩
  | succ k ih =>
    intro b fu N e hf gN h3
    obtain ⟨fu, rfl⟩ : ∃ f, fu = f + 1 := ⟨fu - 1, by omega⟩
    have hN := gf_ps gN hp
    rw [f_M_put_l84, rs_6 hN, bd_some, rz_13_1 hN, nI_tn (by omega), gd_pos (ix_t (by omega) (by decide)), gN.2.2.2.1 13 1 m (fun z => absurd z.1 (by decide)), hK, if_neg (fun z => by have := (nI_lei (by omega) (by omega)).mp z; omega), rs_45 hN, bd_some, rs_1 hN, bd_some, nI_tn (by omega), rz_14_0 hN, gd_pos (ix_t (by omega) (by decide)), rz_14_6 hN, gd_pos (ix_t (by omega) (by decide)), st_eq, nI_s, gN.2.2.2.1 14 0 b (fun z => absurd z.2 (by decide)), hT, nar_B (hB b (by omega))]
    refine ih (b + 1) fu _ (by omega) (by omega) (gf_trans gN (gf_I ⟨rfl, rfl⟩)) (fun c hc => ?_)
    by_cases eb : c = b
    · rw [eb, pI_same]
    · rw [pI_place eb]; exact h3 c (by omega)
theorem rput_v {T : Nat → Int32} {m K V : Nat} (hK : mI R 13 1 m = nI K) (hV : mI R 13 2 m = nI V) (hK2 : K ≤ 64) (hV2 : V ≤ 64) (hm : m < 4) (hp : ps_M R) (hT : ∀ a, mI R 14 0 a = T a) (hB : ∀ a, a < V → isB (T (K + a))) : ∀ (k b fu : Nat) (N : me_M), b + k = V → k < fu → gf (fun k j _ => k = 14 ∧ j = 7) (fun _ _ _ => False) R N → (∀ c, c < b → mI N 14 7 c = T (K + c)) → ∃ N1, f_M_put_l114 0 (nI m) fu N (nI b) = b2 (f_M_update N1 0 (nI m)) (fun (M5 : me_M) (r6 : Int32) => some (M5, r6)) ∧ gf (fun k j _ => k = 14 ∧ j = 7) (fun _ _ _ => False) R N1 ∧ ∀ c, c < V → mI N1 14 7 c = T (K + c) := by
  intro k
  induction k with
  | zero =>
    intro b fu N e hf gN h3
    obtain ⟨fu, rfl⟩ : ∃ f, fu = f + 1 := ⟨fu - 1, by omega⟩
    have hN := gf_ps gN hp
    rw [f_M_put_l114, rs_7 hN, bd_some, rz_13_2 hN, nI_tn (by omega), gd_pos (ix_t (by omega) (by decide)), gN.2.2.2.1 13 2 m (fun z => absurd z.1 (by decide)), hV, if_pos ((nI_lei (by omega) (by omega)).mpr (by omega))]
    rw [show b = V by omega] at h3
    exact ⟨N, rfl, gN, h3⟩
  | succ k ih =>
    intro b fu N e hf gN h3
    obtain ⟨fu, rfl⟩ : ∃ f, fu = f + 1 := ⟨fu - 1, by omega⟩
    have hN := gf_ps gN hp
    rw [f_M_put_l114, rs_7 hN, bd_some, rz_13_2 hN, nI_tn (by omega), gd_pos (ix_t (by omega) (by decide)), gN.2.2.2.1 13 2 m (fun z => absurd z.1 (by decide)), hV, if_neg (fun z => by have := (nI_lei (by omega) (by omega)).mp z; omega), rs_46 hN, bd_some, rs_1 hN, bd_some, rs_6 hN, bd_some, rz_13_1 hN, gd_pos (ix_t (by omega) (by decide)), gN.2.2.2.1 13 1 m (fun z => absurd z.1 (by decide)), hK, nI_add, nI_tn (by omega), nI_tn (by omega), rz_14_0 hN, gd_pos (ix_t (by omega) (by decide)), rz_14_7 hN, gd_pos (ix_t (by omega) (by decide)), st_eq, nI_s, gN.2.2.2.1 14 0 (K + b) (fun z => absurd z.2 (by decide)), hT, nar_B (hB b (by omega))]
    refine ih (b + 1) fu _ (by omega) (by omega) (gf_trans gN (gf_I ⟨rfl, rfl⟩)) (fun c hc => ?_)
    by_cases eb : c = b
    · rw [eb, pI_same]
    · rw [pI_place eb]; exact h3 c (by omega)
end JPU
