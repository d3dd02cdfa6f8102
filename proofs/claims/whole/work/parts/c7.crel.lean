/-! PURE: the class explores: its memory as an exploring state. -/
/-- what is not a state nor of one, and changes -/
def qP (k j : Nat) : Prop := k = 4 ∨ (k = 2 ∧ j = 0) ∨ k = 7 ∨ (k = 10 ∧ j = 0) ∨ (k = 11 ∧ j < 11) ∨ (k = 13 ∧ (j = 0 ∨ j = 1 ∨ j = 3 ∨ j = 4)) ∨ (k = 15 ∧ (j = 4 ∨ j = 5)) ∨ (k = 16 ∧ j = 2)
abbrev fs (t : Nat) (M M1 : me_M) : Prop := fr (fun k j => sP t k j ∨ qP k j) M M1
abbrev fq (M M1 : me_M) : Prop := fr qP M M1
/-- references that change -/
def rP (k f : Nat) : Prop := (k = 4 ∧ f = 8) ∨ k = 17 ∨ (k = 7 ∧ (f = 5 ∨ f = 6))
/-- what exploring leaves alone -/
def oK (k j : Nat) : Prop := ¬ (qP k j ∨ kS k)
def outs (Mz M : me_M) : Prop := (∀ k j, oK k j → mI M k j = mI Mz k j ∧ mL M k j = mL Mz k j) ∧ (∀ k j f, ¬ kS k → ¬ rP k f → mR M k j f = mR Mz k j f) ∧ (∀ k j, ¬ kS k → mZ M k j = mZ Mz k j) ∧ ∀ k, ¬ kS k → mN M k = mN Mz k
def cQ (Mz : me_M) (p : Nat → Int64) (n : Nat) (mk : Nat → Prop) (nm : Nat) (kb vb : Int32 → Int32) (M : me_M) : Prop := xsh M ∧ ss M ∧ cnt M ∧ ps_R M ∧ (mR M 7 0 0 = some 0 ∧ mR M 7 0 1 = some 0 ∧ mR M 7 0 2 = some 0 ∧ mR M 7 0 3 = some 0 ∧ mR M 7 0 4 = some 6 ∧ mR M 7 0 15 = some 7 ∧ mR M 7 0 16 = some 8 ∧ mR M 7 0 17 = some 9 ∧ mR M 7 0 18 = some 10) ∧ (sto M nm kb vb ∧ outs Mz M) ∧ (mI M 2 0 3 = nI n ∧ n ≤ 2000 ∧ mR M 2 0 0 = some 0 ∧ mZ M 16 0 = 2000 ∧ mR M 2 0 2 = some 1 ∧ mZ M 15 1 = 2000 ∧ (∀ s, s < n → mL M 16 0 s = p s) ∧ ∀ s, s < n → mI M 15 1 s = b1 (mk s)) ∧ (mR M 3 0 0 = some 0 ∧ mR M 3 0 1 = some 4 ∧ mR M 3 0 2 = some 5 ∧ mR M 3 0 3 = some 1 ∧ mR M 3 0 4 = some 2 ∧ mZ M 13 0 = 2000 ∧ mZ M 13 1 = 2000 ∧ mZ M 15 4 = 2000 ∧ mZ M 15 5 = 2000 ∧ mZ M 16 2 = 2000) ∧ (mI M 13 3 0 = 0 ∧ mI M 13 4 0 = 0) ∧ ∀ s, s < mN M 9 → ∃ u, us M s u
/-- a state is as it was -/
def sme (M M1 : me_M) (s : Nat) : Prop := e75 (sv M1 s) (sv M s) ∧ mI M1 9 s = mI M 9 s
theorem sme_refl {M : me_M} {s : Nat} : sme M M s := ⟨e75_refl, rfl⟩
theorem sme_trans {M M1 M2 : me_M} {s : Nat} (h : sme M M1 s) (g : sme M1 M2 s) : sme M M2 s := ⟨e75_trans g.1 h.1, g.2.trans h.2⟩
theorem sme_us {M M1 : me_M} {s u : Nat} (h : sme M M1 s) (g : us M s u) : us M1 s u := ⟨g.1, g.2.1, by rw [h.2]; exact g.2.2.1, fun i a b => (h.1 i b).trans (g.2.2.2 i a b)⟩
section CR
variable {Mz : me_M} {p : Nat → Int64} {n nm B : Nat} {sec mk : Nat → Prop} {kb vb : Int32 → Int32} {X : xT} {c : Int64} {M M1 M2 : me_M} {s t : Nat}
theorem qP_9 {j : Nat} : ¬ qP 9 j := by rintro (z | z | z | z | z | z | z | z) <;> omega
theorem qP_c {j : Nat} (h : 0 < j) : ¬ qP 10 j := by rintro (z | z | z | z | z | z | z | z) <;> omega
theorem qP_n {j : Nat} (h : 11 ≤ j) : ¬ qP 11 j := by rintro (z | z | z | z | z | z | z | z) <;> omega
theorem fq_s (g : fq M M1) : sme M M1 s := ⟨fun i hi => cv_fr g (qP_c (by omega)) (qP_n (by rw [nu_g (by omega)]; omega)), g.2.2.2.1 9 s qP_9⟩
theorem fs_s (g : fs t M M1) (h : ¬ s = t) : sme M M1 s := by
  refine ⟨fun i hi => cv_fr g ?_ ?_, g.2.2.2.1 9 s ?_⟩
  · rintro (z | z)
    · rcases z with z | z
      · exact absurd z.1 (by decide)
      · have := cS_c.mp z; omega
    · exact qP_c (by omega) z
  · rintro (z | z)
    · rcases z with z | z
      · exact absurd z.1 (by decide)
      · have := cS_n.mp z; omega
    · exact qP_n (by rw [nu_g (by omega)]; omega) z
  · rintro (z | z)
    · rcases z with z | z
      · exact h z.2
      · rcases cS_k z with r | r <;> exact absurd r (by decide)
    · exact qP_9 z
theorem fq_fs (g : fq M M1) : fs t M M1 := fr_mono g (fun _ _ z => Or.inr z)
theorem sP_fs (g : fr (sP t) M M1) : fs t M M1 := fr_mono g (fun _ _ z => Or.inl z)
theorem fs_trans (g : fs t M M1) (h : fs t M1 M2) : fs t M M2 := fr_trans g h
theorem sP_no {k j : Nat} (h : k = 12 ∨ k = 2 ∨ k = 15 ∨ k = 16 ∨ k = 13 ∨ k = 4 ∨ k = 7 ∨ k = 0 ∨ k = 3) : ¬ sP t k j := by
  rintro (z | z)
  · omega
  · rcases cS_k z with r | r <;> omega
theorem outs_fs (g : fs t M M1) (h : outs Mz M) : outs Mz M1 := by
  obtain ⟨h1, h2, h3, h4⟩ := h
  refine ⟨fun k j hk => ?_, by rw [g.1]; exact h2, by rw [g.2.2.1]; exact h3, by rw [g.2.1]; exact h4⟩
  have no : ¬ (sP t k j ∨ qP k j) := by
    rintro (z | z)
    · rcases z with z | z
      · exact hk (Or.inr (Or.inl z.1))
      · rcases cS_k z with r | r
        · exact hk (Or.inr (Or.inr (Or.inl r)))
        · exact hk (Or.inr (Or.inr (Or.inr (Or.inl r))))
    · exact hk (Or.inl z)
  rw [g.2.2.2.1 k j no, g.2.2.2.2 k j no]
  exact h1 k j hk
theorem cQ_s (h : cQ Mz p n mk nm kb vb M) (g : fs t M M1) (hu : ∃ u, us M1 t u) (h3 : mI M1 2 0 3 = mI M 2 0 3) (h13 : mI M1 13 3 0 = 0 ∧ mI M1 13 4 0 = 0) : cQ Mz p n mk nm kb vb M1 := by
  obtain ⟨q1, q2, q3, q4, q5, q6, q7, q8, q9, q10⟩ := h
  have eR := g.1
  have eN := g.2.1
  have eZ := g.2.2.1
  have e16 : mL M1 16 0 = mL M 16 0 := g.2.2.2.2 16 0 (by
    rintro (z | z)
    · exact sP_no (by omega) z
    · rcases z with z | z | z | z | z | z | z | z <;> omega)
  have e15 : mI M1 15 1 = mI M 15 1 := g.2.2.2.1 15 1 (by
    rintro (z | z)
    · exact sP_no (by omega) z
    · rcases z with z | z | z | z | z | z | z | z <;> omega)
  have e12 : ∀ m, mI M1 12 m = mI M 12 m := fun m => g.2.2.2.1 12 m (by
    rintro (z | z)
    · exact sP_no (by omega) z
    · rcases z with z | z | z | z | z | z | z | z <;> omega)
  refine ⟨?_, ss_of eR eN eZ q2, ?_, ps_R_of eR q4, ?_, ⟨⟨q6.1.1, by rw [eZ]; exact q6.1.2.1, fun m hm => by rw [eR, e12]; exact q6.1.2.2 m hm⟩, outs_fs g q6.2⟩, ?_, ?_, h13, ?_⟩
  · unfold xsh at q1 ⊢; rw [eR, eZ]; exact q1
  · unfold cnt at q3 ⊢; rw [eN]; exact q3
  · rw [eR]; exact q5
  · rw [eR, eZ, h3, e16, e15]; exact q7
  · rw [eR, eZ]; exact q8
  · intro s hs
    rw [eN] at hs
    by_cases e : s = t
    · rw [e]; exact hu
    · obtain ⟨u, hu2⟩ := q10 s hs
      exact ⟨u, sme_us (fs_s g e) hu2⟩
theorem cQ_q (h : cQ Mz p n mk nm kb vb M) (g : fq M M1) (h3 : mI M1 2 0 3 = mI M 2 0 3) (h13 : mI M1 13 3 0 = 0 ∧ mI M1 13 4 0 = 0) : cQ Mz p n mk nm kb vb M1 := by
  by_cases e : 0 < mN M 9
  · obtain ⟨u, hu⟩ := h.2.2.2.2.2.2.2.2.2 0 e
    exact cQ_s (t := 0) h (fq_fs g) ⟨u, sme_us (fq_s g) hu⟩ h3 h13
  · obtain ⟨q1, q2, q3, q4, q5, q6, q7, q8, q9, q10⟩ := h
    have eR := g.1
    have eN := g.2.1
    have eZ := g.2.2.1
    have e16 : mL M1 16 0 = mL M 16 0 := g.2.2.2.2 16 0 (by
      rintro (z | z | z | z | z | z | z | z) <;> omega)
    have e15 : mI M1 15 1 = mI M 15 1 := g.2.2.2.1 15 1 (by
      rintro (z | z | z | z | z | z | z | z) <;> omega)
    have e12 : ∀ m, mI M1 12 m = mI M 12 m := fun m => g.2.2.2.1 12 m (by
      rintro (z | z | z | z | z | z | z | z) <;> omega)
    refine ⟨?_, ss_of eR eN eZ q2, ?_, ps_R_of eR q4, ?_, ⟨⟨q6.1.1, by rw [eZ]; exact q6.1.2.1, fun m hm => by rw [eR, e12]; exact q6.1.2.2 m hm⟩, outs_fs (t := 0) (fq_fs g) q6.2⟩, ?_, ?_, h13, ?_⟩
    · unfold xsh at q1 ⊢; rw [eR, eZ]; exact q1
    · unfold cnt at q3 ⊢; rw [eN]; exact q3
    · rw [eR]; exact q5
    · rw [eR, eZ, h3, e16, e15]; exact q7
    · rw [eR, eZ]; exact q8
    · intro s hs
      rw [eN] at hs
      omega
theorem cQ_R (h : cQ Mz p n mk nm kb vb M) {k j f : Nat} {v : Option Nat} (hk : rP k f) : cQ Mz p n mk nm kb vb (wR M k j f v) := by
  obtain ⟨q1, q2, q3, q4, q5, q6, q7, q8, q9, q10⟩ := h
  have o : ∀ a b x, ¬ rP a x → mR (wR M k j f v) a b x = mR M a b x := fun a b x hn => by rw [pR_R, if_neg (fun z => hn (by rw [z.1, z.2.2]; exact hk))]
  have k8 : ∀ a b, ¬ (a = 4 ∨ a = 17 ∨ a = 7) → mR (wR M k j f v) a b = mR M a b := fun a b hn => by
    funext x
    exact o a b x (by rintro (z | z | z) <;> omega)
  refine ⟨?_, ?_, q3, ?_, ?_, ⟨⟨q6.1.1, q6.1.2.1, fun m hm => by rw [k8 19 _ (by decide)]; exact q6.1.2.2 m hm⟩, q6.2.1, fun a b x ha hx => (o a b x hx).trans (q6.2.2.1 a b x ha hx), q6.2.2.2⟩, ?_, ?_, q9, q10⟩
  · obtain ⟨x0, x1, x2, x3, x4, x5, x6, x7⟩ := q1
    refine ⟨?_, ?_, ?_, ?_, ?_, ?_, ?_, x7⟩
    · rw [o 4 0 0 (by rintro (z | z | z) <;> omega)]; exact x0
    · rw [o 4 0 1 (by rintro (z | z | z) <;> omega)]; exact x1
    · rw [o 4 0 2 (by rintro (z | z | z) <;> omega)]; exact x2
    · rw [o 4 0 3 (by rintro (z | z | z) <;> omega)]; exact x3
    · rw [o 4 0 4 (by rintro (z | z | z) <;> omega)]; exact x4
    · rw [o 4 0 5 (by rintro (z | z | z) <;> omega)]; exact x5
    · rw [o 4 0 6 (by rintro (z | z | z) <;> omega)]; exact x6
  · refine ⟨fun s hs => ?_, fun s i hs hi => ?_, fun c hc => ?_⟩
    · rw [k8 9 _ (by decide)]; exact q2.1 s hs
    · rw [k8 18 _ (by decide)]; exact q2.2.1 s i hs hi
    · rw [k8 10 _ (by decide)]; exact q2.2.2 c hc
  · unfold ps_R at q4 ⊢
    rw [k8 8 _ (by decide)]
    exact q4
  · obtain ⟨x0, x1, x2, x3, x4, x5, x6, x7, x8⟩ := q5
    refine ⟨?_, ?_, ?_, ?_, ?_, ?_, ?_, ?_, ?_⟩
    · rw [o 7 0 0 (by rintro (z | z | z) <;> omega)]; exact x0
    · rw [o 7 0 1 (by rintro (z | z | z) <;> omega)]; exact x1
    · rw [o 7 0 2 (by rintro (z | z | z) <;> omega)]; exact x2
    · rw [o 7 0 3 (by rintro (z | z | z) <;> omega)]; exact x3
    · rw [o 7 0 4 (by rintro (z | z | z) <;> omega)]; exact x4
    · rw [o 7 0 15 (by rintro (z | z | z) <;> omega)]; exact x5
    · rw [o 7 0 16 (by rintro (z | z | z) <;> omega)]; exact x6
    · rw [o 7 0 17 (by rintro (z | z | z) <;> omega)]; exact x7
    · rw [o 7 0 18 (by rintro (z | z | z) <;> omega)]; exact x8
  · rw [k8 2 _ (by decide)]; exact q7
  · rw [k8 3 _ (by decide)]; exact q8
theorem nfr_s (hs : ss M) (hc : cnt M) (g : nfr M M1) (h : s < mN M 9) : sme M M1 s := by
  refine ⟨fun i hi => ?_, (g.1 9 s (Or.inl h)).1⟩
  obtain ⟨_, c2, c3⟩ := hc
  have e1 := (g.1 10 (75 * s + i + 1) (Or.inl (by omega))).1
  have e2 := (g.1 11 (nu (75 * s + i + 1)) (Or.inl (by rw [nu_g (by omega)]; omega))).2.1
  unfold sv cv pg
  rw [e1, e2]
theorem cQ_n (h : cQ Mz p n mk nm kb vb M) (g : nfr M M1) (hs : ss M1) (hc : cnt M1) (hN : mN M1 9 = mN M 9 + 1) (hu : ∃ u, us M1 (mN M 9) u) : cQ Mz p n mk nm kb vb M1 := by
  obtain ⟨q1, q2, q3, q4, q5, q6, q7, q8, q9, q10⟩ := h
  have o : ∀ k j, ¬ kS k → mI M1 k j = mI M k j ∧ mL M1 k j = mL M k j ∧ mR M1 k j = mR M k j ∧ mZ M1 k j = mZ M k j := fun k j hk => g.1 k j (Or.inr hk)
  refine ⟨?_, hs, hc, ?_, ?_, ⟨⟨q6.1.1, by rw [(o 19 0 (by decide)).2.2.2]; exact q6.1.2.1, fun m hm => by rw [(o 19 0 (by decide)).2.2.1, (o 12 m (by decide)).1]; exact q6.1.2.2 m hm⟩, fun k j hk => by rw [(o k j (fun z => hk (Or.inr z))).1, (o k j (fun z => hk (Or.inr z))).2.1]; exact q6.2.1 k j hk, fun k j f hk hf => by rw [(o k j hk).2.2.1]; exact q6.2.2.1 k j f hk hf, fun k j hk => by rw [(o k j hk).2.2.2]; exact q6.2.2.2.1 k j hk, fun k hk => by rw [g.2 k hk]; exact q6.2.2.2.2 k hk⟩, ?_, ?_, ?_, ?_⟩
  · unfold xsh at q1 ⊢
    rw [(o 4 0 (by decide)).2.2.1, (o 17 0 (by decide)).2.2.2, (o 17 1 (by decide)).2.2.2, (o 13 3 (by decide)).2.2.2, (o 13 4 (by decide)).2.2.2]
    exact q1
  · unfold ps_R at q4 ⊢
    rw [(o 8 0 (by decide)).2.2.1]
    exact q4
  · rw [(o 7 0 (by decide)).2.2.1]; exact q5
  · rw [(o 2 0 (by decide)).1, (o 2 0 (by decide)).2.2.1, (o 16 0 (by decide)).2.2.2, (o 16 0 (by decide)).2.1, (o 15 1 (by decide)).1, (o 15 1 (by decide)).2.2.2]; exact q7
  · rw [(o 3 0 (by decide)).2.2.1, (o 13 0 (by decide)).2.2.2, (o 13 1 (by decide)).2.2.2, (o 15 4 (by decide)).2.2.2, (o 15 5 (by decide)).2.2.2, (o 16 2 (by decide)).2.2.2]; exact q8
  · rw [(o 13 3 (by decide)).1, (o 13 4 (by decide)).1]; exact q9
  · intro s hs1
    by_cases e : s = mN M 9
    · rw [e]; exact hu
    · obtain ⟨u, hu2⟩ := q10 s (by omega)
      exact ⟨u, sme_us (nfr_s q2 q3 g (by omega)) hu2⟩
end CR
