/-! PURE: program and run. -/
section JPR
variable {M R : me_M} {x y : Int32}
/-- the tape is emptied -/
theorem Iv_tape (h : Iv M R) : Iv (wI M 0 0 1 0) (wI R 1 0 2 0) := by
  obtain ⟨nm, g, tn, jt, tb, kb, vb, en, jk, jv, jh, W, hc, ⟨r1, r2, r3, ⟨r4, r5⟩, r6⟩, ⟨b1, b2, ⟨b3, b4, b5, b6⟩, b7, b8⟩, hp⟩ := h
  have e : ∀ k j, ¬ k = 1 → mI (wI R 1 0 2 0) k j = mI R k j := fun k j hk => wI_o (fun z => hk z.1)
  have f : ∀ k j, ¬ k = 0 → mI (wI M 0 0 1 0) k j = mI M k j := fun k j hk => wI_o (fun z => hk z.1)
  refine ⟨nm, g, 0, jt, tb, kb, vb, en, jk, jv, jh, W, ?_, ⟨ps_M_of rfl rfl r1, ?_, ?_, ⟨?_, ?_⟩, ?_⟩, ⟨b1, fun b hb => by omega, ⟨?_, ?_, ?_, ?_⟩, ?_, ?_⟩, ?_⟩
  · refine cI_k hc (cWr_k hc.2.1 hc.2.2.1 rfl (fun _ _ _ _ => rfl) (fun m => f 12 m (by decide)) (fun j _ => f 14 j (by decide)) (fun j _ => f 15 j (by decide)) ⟨by rw [f 5 0 (by decide)], by rw [f 5 0 (by decide)]⟩ ⟨rfl, rfl⟩) rfl rfl (fun _ _ _ _ => rfl) ⟨by rw [f 13 3 (by decide)], by rw [f 13 4 (by decide)]⟩ (us_all hc (fun j => f 10 j (by decide)) (fun j => f 9 j (by decide)) (fun _ => rfl)) (pI_place (by decide)) pI_same (by omega)
  · unfold kv; rw [e 14 8 (by decide)]; exact r2
  · obtain ⟨s1, s2, s3, s4⟩ := r3
    refine ⟨?_, ?_, ?_, ?_⟩
    · unfold rSh at s1 ⊢
      rw [e 13 0 (by decide), e 13 1 (by decide), e 13 2 (by decide), e 13 3 (by decide)]
      exact s1
    · rw [pL_I, e 14 5 (by decide), e 14 3 (by decide), pI_place (by decide), pI_place (by decide)]
      exact s2
    · rw [e 15 0 (by decide), e 14 1 (by decide), e 14 2 (by decide)]
      exact s3
    · rw [e 14 4 (by decide)]
      exact s4
  · rw [pI_place (by decide)]; exact r4
  · rw [pI_same]; rfl
  · rw [e 15 0 (by decide)]; exact r6
  · rw [f 5 0 (by decide), pI_place (by decide)]; exact b3
  · rw [f 5 0 (by decide), pI_place (by decide)]; exact b4
  · rw [f 5 0 (by decide), pI_place (by decide)]; exact b5
  · rw [f 5 0 (by decide), pI_place (by decide)]; exact b6
  · rw [pI_place (by decide), pI_place (by decide)]; exact b7
  · rw [pI_place (by decide)]; exact b8
  · rcases hp with ⟨z1, z2, z3, z4, z5⟩ | ⟨p, n, B, gg, z1, z2, z3, z4⟩
    · exact Or.inl ⟨by rw [pI_place (by decide)]; exact z1, by rw [pI_place (by decide)]; exact z2, by rw [pI_place (by decide)]; exact z3, by rw [pI_place (by decide)]; exact z4, by rw [f 2 0 (by decide)]; exact z5⟩
    · exact Or.inr ⟨p, n, B, gg, z1, cPr_k z2 (fun q a b => pI_place (by omega)) (fun j => by rw [f 2 j (by decide)]) (fun q => by rw [f 4 0 (by decide)]) (fun j _ => f 13 j (by decide)) (fun j _ => f 15 j (by decide)) (fun _ _ => rfl), rPr_k z3 (fun q hq => pI_place (by omega)) (fun j _ => e 13 j (by decide)) (fun j _ => e 15 j (by decide)) (fun _ _ => rfl), fun q => ⟨(z4 q).1, by rw [pI_place (by decide)]; exact (z4 q).2⟩⟩
/-- the references and lengths that a run of the reference needs -/
theorem rSh_ps {nm : Nat} {tb : Nat → Prop} {kb vb : Int32 → Int32} {en : Nat → Nat} {S : me_M} (h : rSh nm tb kb vb en R) (hp : ps_M S) (e : ∀ j, j ≤ 3 → mI S 13 j = mI R 13 j) : rSh nm tb kb vb en S := by
  refine ⟨⟨rs_5 hp, rs_6 hp, rs_7 hp, rs_8 hp, rs_9 hp, rs_10 hp, rs_11 hp, rs_16 hp, rs_17 hp, rs_35 hp, rs_36 hp, rs_39 hp, rs_43 hp, rs_44 hp, rs_45 hp, rs_46 hp⟩, ⟨rz_13_0 hp, rz_13_1 hp, rz_13_2 hp, rz_13_3 hp, rz_14_1 hp, rz_14_2 hp, rz_14_3 hp, rz_14_4 hp, rz_14_5 hp, rz_14_6 hp, rz_14_7 hp, rz_15_0 hp, rz_16_1 hp, rz_16_2 hp, rz_16_4 hp, rz_16_5 hp⟩, ?_⟩
  rw [e 0 (by omega), e 1 (by omega), e 2 (by omega), e 3 (by omega)]
  exact h.2.2
end JPR
