/-! PURE: the class has made more things. -/
section JMO
variable {nm nm2 g g2 tn jt j2 : Nat} {tb : Nat → Prop} {kb vb : Int32 → Int32} {en jk jv jh : Nat → Nat} {W : tyU} {M N R S : me_M}
theorem c402 (hc : cI_ nm g tn jt tb kb vb en jk jv jh W M) : mN M 9 ≤ 402 := by
  obtain ⟨P, ka, wa, ⟨p1, p2, _⟩, q, _⟩ := hc.1.2.2.2.2.2.2.2.2.2.2.2
  omega
theorem cnt_ (hc : cI_ nm g tn jt tb kb vb en jk jv jh W M) : cnt M := hc.1.2.2.2.2.2.2.1
/-- what is there stays; tape arrays, stores and their arrays may be new -/
theorem cN_k (hc : cI_ nm g tn jt tb kb vb en jk jv jh W M) (hR : ∀ k j f, ¬ (k = 0 ∧ j = 0 ∧ f = 0) → ¬ k = 14 → ¬ k = 15 → ¬ (k = 12 ∧ nm ≤ j) → ¬ (k = 19 ∧ nm ≤ f) → mR N k j f = mR M k j f) (hZ : ∀ k j, ¬ (k = 14 ∧ mN M 14 ≤ j) → ¬ (k = 15 ∧ mN M 15 ≤ j) → mZ N k j = mZ M k j) (hI : ∀ k j, ¬ (k = 14 ∧ mN M 14 ≤ j) → ¬ (k = 15 ∧ mN M 15 ≤ j) → ¬ (k = 12 ∧ nm ≤ j) → ¬ (k = 0 ∧ j = 0) → mI N k j = mI M k j) (hL : ∀ k j, ¬ k = 12 → ¬ k = 14 → ¬ k = 15 → mL N k j = mL M k j) (hC : cCt g2 nm2 N) (hg : g2 ≤ 6) (hn : nm2 ≤ 4) (hN : mN N 9 = mN M 9 ∧ mN N 10 = mN M 10 ∧ mN N 11 = mN M 11 ∧ mN N 18 = mN M 18) (h0 : mR N 0 0 0 = some j2) : cWh N ∧ cWr nm tb kb vb en jk jv jh W N ∧ cGr j2 N := by
  have h4 := c402 hc
  have hcn := cnt_ hc
  obtain ⟨c1, ⟨⟨⟨⟨r0, r1, r2, r3, r4, r5, r6, r7, r9⟩, ⟨z1, z2, z3, z4, z5⟩, ⟨s1, s2, s3⟩, hv⟩, hs⟩, w2, w3, w4⟩, c3, c4, ⟨⟨c5, c6, c7⟩, ⟨c8, c9, c10, c11⟩, c12⟩, ⟨c13, c14⟩, ⟨c15, c16, c17, c18, c19, c20⟩, c21⟩ := hc
  obtain ⟨⟨k0, k1, k2, k3, k4, k5, k6, k7, k8⟩, k12, k13, k14, k15, k16, k17, k19⟩ := c4
  have rm := room_of hC hg hn (by
    obtain ⟨q1, q2, q3⟩ := hcn
    exact ⟨by rw [hN.2.2.2, hN.1]; exact q1, by rw [hN.2.1, hN.1]; exact q2, by rw [hN.2.2.1, hN.1]; exact q3⟩) (by rw [hN.1]; exact h4)
  have rr : ∀ k j f, ¬ k = 0 → ¬ k = 14 → ¬ k = 15 → ¬ k = 12 → ¬ k = 19 → mR N k j f = mR M k j f := fun k j f a b c d e => hR k j f (fun z => a z.1) b c (fun z => d z.1) (fun z => e z.1)
  have rz : ∀ k j, ¬ k = 14 → ¬ k = 15 → mZ N k j = mZ M k j := fun k j a b => hZ k j (fun z => a z.1) (fun z => b z.1)
  have ri : ∀ k j, ¬ k = 14 → ¬ k = 15 → ¬ k = 12 → ¬ k = 0 → mI N k j = mI M k j := fun k j a b c d => hI k j (fun z => a z.1) (fun z => b z.1) (fun z => c z.1) (fun z => d z.1)
  have i12 : ∀ m, m < nm → mI N 12 m = mI M 12 m := fun m hm => hI 12 m (fun z => absurd z.1 (by decide)) (fun z => absurd z.1 (by decide)) (fun z => by omega) (fun z => absurd z.1 (by decide))
  have r12 : ∀ m f, m < nm → mR N 12 m f = mR M 12 m f := fun m f hm => hR 12 m f (fun z => absurd z.1 (by decide)) (by decide) (by decide) (fun z => by omega) (fun z => absurd z.1 (by decide))
  have z14 : ∀ j, j < mN M 14 → mZ N 14 j = mZ M 14 j := fun j hj => hZ 14 j (fun z => by omega) (fun z => absurd z.1 (by decide))
  have z15 : ∀ j, j < mN M 15 → mZ N 15 j = mZ M 15 j := fun j hj => hZ 15 j (fun z => absurd z.1 (by decide)) (fun z => by omega)
  have i14 : ∀ j, j < mN M 14 → mI N 14 j = mI M 14 j := fun j hj => hI 14 j (fun z => by omega) (fun z => absurd z.1 (by decide)) (fun z => absurd z.1 (by decide)) (fun z => absurd z.1 (by decide))
  have i15 : ∀ j, j < mN M 15 → mI N 15 j = mI M 15 j := fun j hj => hI 15 j (fun z => absurd z.1 (by decide)) (fun z => by omega) (fun z => absurd z.1 (by decide)) (fun z => absurd z.1 (by decide))
  refine ⟨?_, ⟨⟨⟨⟨?_, ?_, ?_, ?_, ?_, ?_, ?_, ?_, ?_⟩, ⟨?_, ?_, ?_, ?_, ?_⟩, ⟨s1, ?_, fun m hm => ?_⟩, fun m hm => ?_⟩, fun m hm => ?_⟩, ?_, ?_, ?_⟩, ⟨⟨h0, ?_, ?_⟩, ⟨?_, ?_, ?_, ?_⟩, ?_⟩⟩
  · refine cWh_k c1 (fun k j f a b c d e e15 => ?_) (fun k j a b c => ?_) hN ⟨by rw [ri 13 3 (by decide) (by decide) (by decide) (by decide)], by rw [ri 13 4 (by decide) (by decide) (by decide) (by decide)]⟩ (fun s hs => ?_) (fun ka wa q => ?_)
    · exact hR k j f (fun z => d ⟨z.1, z.2.2⟩) c e15 (fun z => b z.1) (fun z => e z.1)
    · exact hZ k j (fun z => a z.1) (fun z => by omega)
    · obtain ⟨u, hu⟩ := c1.2.2.2.2.2.2.2.2.2.2.1 s hs
      exact ⟨u, us_k (fun j => ri 10 j (by decide) (by decide) (by decide) (by decide)) (fun j => ri 9 j (by decide) (by decide) (by decide) (by decide)) (fun j => hL 11 j (by decide) (by decide) (by decide)) hu⟩
    · refine ⟨by rw [hN.1]; exact q.1, ?_, ?_⟩
      · exact Nat.le_trans rm.1 (by unfold me_CL; omega)
      · exact Nat.le_trans rm.2 (by unfold me_SL; omega)
  · rw [rr 5 0 0 (by decide) (by decide) (by decide) (by decide) (by decide)]; exact r0
  · rw [rr 5 0 1 (by decide) (by decide) (by decide) (by decide) (by decide)]; exact r1
  · rw [rr 5 0 2 (by decide) (by decide) (by decide) (by decide) (by decide)]; exact r2
  · rw [rr 5 0 3 (by decide) (by decide) (by decide) (by decide) (by decide)]; exact r3
  · rw [rr 5 0 4 (by decide) (by decide) (by decide) (by decide) (by decide)]; exact r4
  · rw [rr 5 0 5 (by decide) (by decide) (by decide) (by decide) (by decide)]; exact r5
  · rw [rr 5 0 6 (by decide) (by decide) (by decide) (by decide) (by decide)]; exact r6
  · rw [rr 5 0 7 (by decide) (by decide) (by decide) (by decide) (by decide)]; exact r7
  · rw [rr 5 0 9 (by decide) (by decide) (by decide) (by decide) (by decide)]; exact r9
  · rw [z14 1 (by omega)]; exact z1
  · rw [z14 2 (by omega)]; exact z2
  · rw [z14 3 (by omega)]; exact z3
  · rw [rz 16 3 (by decide) (by decide)]; exact z4
  · rw [rz 16 4 (by decide) (by decide)]; exact z5
  · rw [rz 19 0 (by decide) (by decide)]; exact s2
  · rw [hR 19 0 m (fun z => absurd z.1 (by decide)) (by decide) (by decide) (fun z => absurd z.1 (by decide)) (fun z => by omega), i12 m hm]; exact s3 m hm
  · rw [r12 m 5 hm, i12 m hm, z14 _ (c21 m hm).2.1]; exact hv m hm
  · have := hs m hm
    unfold sS at this ⊢
    rw [r12 m 4 hm, r12 m 5 hm, r12 m 6 hm, i12 m hm, z14 _ (c21 m hm).1, z14 _ (c21 m hm).2.1, z15 _ (c21 m hm).2.2]
    exact this
  · rw [i14 3 (by omega), ri 5 0 (by decide) (by decide) (by decide) (by decide), hL 16 4 (by decide) (by decide) (by decide), hL 5 0 (by decide) (by decide) (by decide)]
    exact mo_Tb (T := Tb W) w2
  · exact mst_e w3 (fun m hm i _ => by rw [i15 _ (c21 m hm).2.2]) (fun m hm i _ b _ => by rw [i14 _ (c21 m hm).1]) (fun m hm i _ b _ => by rw [i14 _ (c21 m hm).2.1])
  · rw [i14 1 (by omega)]; exact w4
  · rw [hR 0 0 2 (fun z => absurd z.2.2 (by decide)) (by decide) (by decide) (fun z => absurd z.1 (by decide)) (fun z => absurd z.1 (by decide))]; exact c6
  · rw [hR 0 0 8 (fun z => absurd z.2.2 (by decide)) (by decide) (by decide) (fun z => absurd z.1 (by decide)) (fun z => absurd z.1 (by decide))]; exact c7
  · rw [rr 6 0 0 (by decide) (by decide) (by decide) (by decide) (by decide)]; exact c8
  · rw [rr 6 0 1 (by decide) (by decide) (by decide) (by decide) (by decide)]; exact c9
  · rw [rr 6 0 2 (by decide) (by decide) (by decide) (by decide) (by decide)]; exact c10
  · rw [rr 6 0 3 (by decide) (by decide) (by decide) (by decide) (by decide)]; exact c11
  · rw [rz 16 5 (by decide) (by decide)]; exact c12
end JMO
