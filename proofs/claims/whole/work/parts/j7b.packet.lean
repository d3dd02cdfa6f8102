/-! PURE: packet and context. -/
section JPC
variable {nm g tn jt : Nat} {tb : Nat → Prop} {kb vb : Int32 → Int32} {en jk jv jh : Nat → Nat} {W : tyU} {M N R S : me_M} {n : Nat} {x y : Int32} {v : Int64}
theorem wI_id {k j f : Nat} : wI M k j f (mI M k j f) = M := by
  refine me_ext ?_ rfl rfl rfl rfl
  funext a b c
  rw [pI_I]
  by_cases h : a = k ∧ b = j ∧ c = f
  · rw [if_pos h, h.1, h.2.1, h.2.2]
  · rw [if_neg h]
/-- packet, its size and the context are others -/
theorem Iv_w (hc : cI_ nm g tn jt tb kb vb en jk jv jh W M) (hr : rI_ nm tn tb kb vb en W R) (hb : bI_ nm tn jt tb kb vb en W M R) (hp : pI_ nm kb vb M R) {P C : Nat → Int32} (hN : mN N = mN M) (hZ : mZ N = mZ M) (hRf : ∀ k j f, ¬ (k = 5 ∧ j = 0 ∧ (f = 16 ∨ f = 18)) → mR N k j f = mR M k j f) (hI : ∀ k j, ¬ (k = 5 ∧ j = 0) → ¬ (k = 14 ∧ (j = 1 ∨ j = 3)) → mI N k j = mI M k j) (h5 : ∀ f, ¬ f = 8 → ¬ f = 19 → mI N 5 0 f = mI M 5 0 f) (hL : ∀ k j, ¬ k = 14 → mL N k j = mL M k j) (gS : gf (fun k j f => (k = 14 ∧ (j = 3 ∨ j = 4)) ∨ (k = 1 ∧ j = 0 ∧ f = 34)) (fun _ _ _ => False) R S) (p1 : ∀ a, a < 2000 → mI N 14 3 a = P a ∧ mI S 14 3 a = P a) (c1 : ∀ a, 16 ≤ a → a < 64 → mI N 14 1 a = C a ∧ mI S 14 4 a = C a) (n1 : mI N 5 0 8 = nI n ∧ mI S 1 0 34 = nI n) (n2 : n ≤ 2000) (bP : ∀ a, isB (P a)) (bC : ∀ a, isB (C a)) : Iv N S := by
  obtain ⟨W2, eW⟩ : ∃ W2 : tyU, W2 = (P, n, C, uT W, uN W, uL W, uH W, uK W, uV W) := ⟨_, rfl⟩
  have dj := hc.2.2.1
  have gi : ∀ k j, ¬ (k = 14 ∧ (j = 3 ∨ j = 4)) → ¬ (k = 1 ∧ j = 0) → mI S k j = mI R k j := fun k j a b => by
    funext f
    exact gS.2.2.2.1 k j f (fun z => by omega)
  have g1 : ∀ f, ¬ f = 34 → mI S 1 0 f = mI R 1 0 f := fun f hf => gS.2.2.2.1 1 0 f (fun z => by omega)
  have gl : mL S = mL R := by
    funext k j f
    exact gS.2.2.2.2 k j f (fun z => z)
  have gz : mR S = mR R ∧ mZ S = mZ R := ⟨gS.1, gS.2.2.1⟩
  refine ⟨nm, g, tn, jt, tb, kb, vb, en, jk, jv, jh, W2, ?_, ⟨ps_M_of gz.1 gz.2 hr.1, ?_, ⟨?_, ?_, ?_, ?_⟩, ⟨?_, ?_⟩, ?_⟩, ⟨⟨?_, ?_, hb.1.2.2⟩, ?_, ⟨?_, ?_, ?_, ?_⟩, ?_, ?_⟩, ?_⟩
  · obtain ⟨w1, ⟨w2, w3, w4, w5, w6, w7⟩, w8, w9⟩ := hc.2.1
    refine cI_k hc ⟨cSh_k w1 hZ hRf (fun m => hI 12 m (by omega) (by omega)), ?_, ?_, ?_⟩ hZ hN hRf ⟨by rw [hI 13 3 (by omega) (by omega)], by rw [hI 13 4 (by omega) (by omega)]⟩ (us_all hc (fun j => hI 10 j (by omega) (by omega)) (fun j => hI 9 j (by omega) (by omega)) (fun j => hL 11 j (by decide))) (by rw [hI 0 0 (by omega) (by omega)]) (by rw [hI 0 0 (by omega) (by omega)]; exact hc.2.2.2.2.2.1.2) (Nat.le_refl _)
    · have mm : mo rc_ (Tb W2) (mL M 16 3) (mI M 14 2) (mI N 14 3) (mI N 5 0 8) (mI M 5 0 10) (mL M 16 4) (mL M 5 0 11) := by
        refine ⟨w2, w3, fun a ha => ?_, ⟨?_, ?_⟩, ?_, ?_⟩
        · rw [(p1 a ha).1, eW]; rfl
        · rw [n1.1, eW]; rfl
        · rw [eW]; exact n2
        · rw [eW]; exact w6
        · rw [eW]; exact w7
      rw [h5 10 (by decide) (by decide), hL 16 4 (by decide), hL 5 0 (by decide)]
      exact mo_Tb (T := Tb W2) mm
    · rw [eW]
      exact mst_e w8 (fun m hm i _ => by rw [hI 15 (jh m) (by omega) (by omega)]) (fun m hm i _ b _ => by rw [hI 14 (jk m) (by omega) (fun z => by have := (dj.1 m hm).1; omega)]) (fun m hm i _ b _ => by rw [hI 14 (jv m) (by omega) (fun z => by have := (dj.1 m hm).2.1; omega)])
    · intro a a1 a2
      rw [(c1 a a1 a2).1, eW]
  · unfold kv; rw [gi 14 8 (by omega) (by omega)]; exact hr.2.1
  · exact rSh_ps hr.2.2.1.1 (ps_M_of gz.1 gz.2 hr.1) (fun j hj => gi 13 j (by omega) (by omega))
  · obtain ⟨w2, w3, w4, w5, w6, w7⟩ := hr.2.2.1.2.1
    have mm : mo rr_ (Tb W2) (mL R 16 5) (mI R 14 5) (mI S 14 3) (mI S 1 0 34) (mI R 1 0 38) (mL R 16 4) (mL R 1 0 37) := by
      refine ⟨w2, w3, fun a ha => ?_, ⟨?_, ?_⟩, ?_, ?_⟩
      · rw [(p1 a ha).2, eW]; rfl
      · rw [n1.2, eW]; rfl
      · rw [eW]; exact n2
      · rw [eW]; exact w6
      · rw [eW]; exact w7
    rw [g1 38 (by decide), gl]
    exact mo_Tb (T := Tb W2) mm
  · rw [gi 15 0 (by omega) (by omega), gi 14 1 (by omega) (by omega), gi 14 2 (by omega) (by omega), eW]
    exact hr.2.2.1.2.2.1
  · intro a a1 a2
    rw [(c1 a a1 a2).2, eW]; rfl
  · rw [g1 3 (by decide)]; exact hr.2.2.2.1.1
  · rw [g1 2 (by decide)]; exact hr.2.2.2.1.2
  · exact ⟨by rw [gi 15 0 (by omega) (by omega)]; exact hr.2.2.2.2.1, vz_k hr.2.2.2.2.2 (fun z => by rw [g1 4 (by decide)] at z; exact z) (fun x _ => by rw [gi 14 2 (by omega) (by omega)])⟩
  · rw [eW]; exact ⟨bP, bC, hb.1.1.2.2⟩
  · rw [eW]; exact hb.1.2.1
  · have c19 := hc.2.2.2.2.2.2.1.2.2.2.2.1
    rw [hI 14 jt (by omega) (by omega), gi 14 0 (by omega) (by omega)]; exact hb.2.1
  · rw [h5 12 (by decide) (by decide), g1 40 (by decide)]; exact hb.2.2.1.1
  · rw [h5 13 (by decide) (by decide), g1 41 (by decide)]; exact hb.2.2.1.2.1
  · rw [h5 14 (by decide) (by decide), g1 42 (by decide)]; exact hb.2.2.1.2.2.1
  · rw [h5 15 (by decide) (by decide), g1 74 (by decide)]; exact hb.2.2.1.2.2.2
  · rw [hI 0 0 (by omega) (by omega), g1 4 (by decide)]; exact hb.2.2.2.1
  · rw [hI 0 0 (by omega) (by omega)]; exact hb.2.2.2.2
  · have i0 := hI 0 0 (by omega) (by omega)
    rcases hp with ⟨z1, z2, z3, z4, z5⟩ | ⟨p, n, B, gg, z1, z2, z3, z4⟩
    · exact Or.inl ⟨by rw [i0]; exact z1, by rw [g1 18 (by decide)]; exact z2, by rw [i0]; exact z3, by rw [g1 19 (by decide)]; exact z4, by rw [hI 2 0 (by omega) (by omega)]; exact z5⟩
    · exact Or.inr ⟨p, n, B, gg, z1, cPr_k z2 (fun f _ _ => by rw [i0]) (fun j => by rw [hI 2 j (by omega) (by omega)]) (fun f => by rw [hI 4 0 (by omega) (by omega)]) (fun j _ => hI 13 j (by omega) (by omega)) (fun j _ => hI 15 j (by omega) (by omega)) (fun j _ => hL 16 j (by decide)), rPr_k z3 (fun f hf => g1 f (by omega)) (fun j _ => gi 13 j (by omega) (by omega)) (fun j _ => gi 15 j (by omega) (by omega)) (fun j _ => by rw [gl]), fun z => ⟨(z4 z).1, by rw [i0]; exact (z4 z).2⟩⟩
/-- the reference takes the packet -/
theorem rpk {T : Nat → Int32} (hn : n ≤ 2000) (hp : ps_M R) (hT : ∀ a, a < n → isB (T a)) : ∀ (k a fu : Nat) (N : me_M), a + k = n → k < fu → gf (fun k j _ => k = 14 ∧ j = 3) (fun _ _ _ => False) R N → (∀ b, mI R 14 0 b = T b) → (∀ b, mI N 14 3 b = if b < a then T b else mI R 14 3 b) → ∃ N1, f_M_packet_l33 0 (nI n) fu N 1 (nI a) = f_M_packet_b60 0 (nI n) N1 1 ∧ gf (fun k j _ => k = 14 ∧ j = 3) (fun _ _ _ => False) R N1 ∧ ∀ b, mI N1 14 3 b = if b < n then T b else mI R 14 3 b := by
  intro k
  induction k with
  | zero =>
    intro a fu N e hf gN h0 h3
    obtain ⟨fu, rfl⟩ : ∃ f, fu = f + 1 := ⟨fu - 1, by omega⟩
    rw [f_M_packet_l33, if_pos ((nI_lei (by omega) (by omega)).mpr (by omega))]
    rw [show a = n by omega] at h3
    exact ⟨N, rfl, gN, h3⟩
  | succ k ih =>
    intro a fu N e hf gN h0 h3
    obtain ⟨fu, rfl⟩ : ∃ f, fu = f + 1 := ⟨fu - 1, by omega⟩
    have hN := gf_ps gN hp
    rw [f_M_packet_l33, if_neg (fun z => by have := (nI_lei (by omega) (by omega)).mp z; omega), if_neg (by decide), rs_35 hN, bd_some, rs_1 hN, bd_some, rz_14_0 hN, nI_tn (by omega), gd_pos (ix_t (by omega) (by decide)), rz_14_3 hN, gd_pos (ix_t (by omega) (by decide)), st_eq, nI_s, gN.2.2.2.1 14 0 a (fun z => absurd z.2 (by decide)), h0, nar_B (hT a (by omega))]
    refine ih (a + 1) fu _ (by omega) (by omega) (gf_trans gN (gf_I ⟨rfl, rfl⟩)) h0 (fun b => ?_)
    by_cases eb : b = a
    · rw [eb, pI_same, if_pos (by omega)]
    · rw [pI_place eb, h3]
      by_cases l : b < a
      · rw [if_pos l, if_pos (by omega)]
      · rw [if_neg l, if_neg (by omega)]
theorem J_packet (h : Iv M R) : ∃ r M1 R1, f_G_packet M 0 x = some (M1, r) ∧ f_M_packet R 0 x = some (R1, r) ∧ Iv M1 R1 := by
  have h2 := h
  obtain ⟨nm, g, tn, jt, tb, kb, vb, en, jk, jv, jh, W, hc, hr, hb, hp⟩ := h2
  have r8 : mR M 0 0 8 = some 0 := hc.2.2.2.2.1.1.2.2
  have r0 : mR M 0 0 0 = some jt := hc.2.2.2.2.1.1.1
  have t1 : mI M 0 0 1 = nI tn := hc.2.2.2.2.2.1.2
  have t2 : mI R 1 0 2 = nI tn := hr.2.2.2.1.2
  have tz : mZ M 14 jt = tl g := hc.2.2.2.2.2.2.1.2.1
  have tg : g ≤ 6 := hc.2.2.2.2.2.2.1.1
  have tt : tn ≤ tl g := hc.2.2.2.2.2.2.1.2.2.1
  have tl6 : tl g ≤ 65536 := by
    have : ∀ q, q < 7 → tl q ≤ 65536 := by decide
    exact this g (by omega)
  have hi := Iv_tape (Iv_thr (x := 0) h)
  have i1 : f_M_in x.toInt64 0 2000 = some (b1 (¬ x < 0 ∧ ¬ 2000 < x)) := in_i (v := x) (a := 0) (b := 2000)
  have no : f_M_packet_l33 0 x fuel (wI R 1 0 0 0) 0 0 = some (wI (wI R 1 0 0 0) 1 0 2 0, 0) := by
    unfold fuel
    rw [f_M_packet_l33, if_pos (show (0 : Int32) = 0 from rfl), ite_self]
    unfold f_M_packet_b60
    rw [if_pos rfl, st_eq, st_eq, wI_id]
  by_cases c1 : x < 0
  · refine ⟨0, _, _, ?_, ?_, hi⟩
    · unfold f_G_packet; rw [st_eq, st_eq, if_pos c1]
    · unfold f_M_packet; rw [st_eq, i1, bd_some, b1_f (fun z => z.1 c1), if_pos rfl, no]
  by_cases c2 : 2000 < x
  · refine ⟨0, _, _, ?_, ?_, hi⟩
    · unfold f_G_packet; rw [st_eq, st_eq, if_neg c1, if_pos c2]
    · unfold f_M_packet; rw [st_eq, i1, bd_some, b1_f (fun z => z.2 c2), if_pos rfl, no]
  by_cases c3 : nI tn < x
  · refine ⟨0, _, _, ?_, ?_, hi⟩
    · unfold f_G_packet; rw [st_eq, st_eq, if_neg c1, if_neg c2, t1, if_neg (by rw [i32_lt] at c3; rw [i32_le]; omega)]
    · unfold f_M_packet; rw [st_eq, i1, bd_some, b1_t ⟨c1, c2⟩, if_neg (by decide), pI_place (by decide), t2, if_pos c3, no]
  obtain ⟨n, n1, en1⟩ := of_rng (n := 2001) c1 (fun z => c2 (by rw [i32_le] at z; rw [i32_lt]; have z : (2001 : Int) ≤ x.toInt := z; show (2000 : Int) < x.toInt; omega)) (by decide)
  have nt : n ≤ tn := by
    rw [en1] at c3
    exact Nat.le_of_not_lt (fun z => c3 ((nI_lti (by omega) (by omega)).mpr z))
  have z3 : mZ M 14 3 = 2000 := hc.2.1.1.1.2.1.2.2.1
  have r7 : mR M 5 0 7 = some 3 := hc.2.1.1.1.1.2.2.2.2.2.2.2.1
  have hps : ps_M (wI R 1 0 0 0) := ps_W hr.1
  have e14 : ∀ j, mI (wI R 1 0 0 0) 14 j = mI R 14 j := fun j => wI_o (fun z => absurd z.1 (by decide))
  obtain ⟨R1, s1, s2, s3⟩ := rpk (R := wI R 1 0 0 0) (T := mI R 14 0) (n := n) (by omega) hps (fun a ha => by rw [← (hb.2.1 a (by omega)).1]; exact (hb.2.1 a (by omega)).2) n 0 fuel (wI R 1 0 0 0) (by omega) (by unfold fuel; omega) gf_refl (fun b => by rw [e14]) (fun b => by rw [if_neg (by omega)])
  refine ⟨1, wI (wA (wI M 0 0 1 0) 14 3 (va_cpy (mI M 14 jt) (mI M 14 3) 0 0 n)) 5 0 8 (nI n), wI (wI R1 1 0 34 (nI n)) 1 0 2 0, ?_, ?_, ?_⟩
  · unfold f_G_packet f_Machine_takePacket
    rw [st_eq, st_eq, if_neg c1, if_neg c2, t1, if_pos (by rw [i32_lt] at c3; rw [i32_le]; omega), r8, bd_some, r0, bd_some, show mR (wI M 0 0 1 0) 5 0 7 = some 3 from r7, bd_some, en1, nI_tn (by omega), gd_pos ⟨by decide, by decide, nI_ps (by omega), (show (0 : Nat) + n ≤ mZ M 14 jt by rw [tz]; omega), (show (0 : Nat) + n ≤ mZ M 14 3 by rw [z3]; omega)⟩, st_eq, st_eq, bd_some, wI_o (fun z => absurd z.1 (by decide)), wI_o (fun z => absurd z.1 (by decide))]
    rfl
  · unfold f_M_packet
    rw [st_eq, i1, bd_some, b1_t ⟨c1, c2⟩, if_neg (by decide), pI_place (by decide), t2, if_neg c3, en1, show f_M_packet_l33 0 (nI n) fuel (wI R 1 0 0 0) 1 0 = _ from s1]
    unfold f_M_packet_b60
    rw [if_neg (by decide), st_eq, st_eq]
  · obtain ⟨nm', g', tn', jt', tb', kb', vb', en', jk', jv', jh', W', hc', hr', hb', hp'⟩ := hi
    have pr : ∀ a, a < 2000 → mI R 14 3 a = uP W' a := fun a ha => by
      have := hr'.2.2.1.2.1.2.2.1 a ha
      rw [wI_j (fun z => absurd z.1 (by decide)), wI_j (fun z => absurd z.1 (by decide))] at this
      exact this
    have pc : ∀ a, a < 2000 → mI M 14 3 a = uP W' a := fun a ha => by
      have := hc'.2.1.2.1.2.2.1 a ha
      rw [wI_j (fun z => absurd z.1 (by decide))] at this
      exact this
    have ti : ∀ a, a < n → mI M 14 jt a = mI R 14 0 a := fun a ha => (hb.2.1 a (by omega)).1
    have tB : ∀ a, a < n → isB (mI R 14 0 a) := fun a ha => by rw [← ti a ha]; exact (hb.2.1 a (by omega)).2
    have q14 : ∀ j, ¬ j = 3 → mI R1 14 j = mI R 14 j := fun j hj => by
      funext b
      rw [s2.2.2.2.1 14 j b (fun z => hj z.2), e14]
    refine Iv_w (n := n) (P := fun a => if a < n then mI R 14 0 a else uP W' a) (C := uC W') hc' hr' hb' hp' rfl rfl (fun _ _ _ _ => rfl) (fun k j a b => ?_) (fun f a b => ?_) (fun _ _ _ => rfl) ⟨s2.1, s2.2.1, s2.2.2.1, fun k j f z => ?_, fun k j f _ => s2.2.2.2.2 k j f (fun z => z)⟩ (fun a ha => ⟨?_, ?_⟩) (fun a a1 a2 => ⟨?_, ?_⟩) ⟨pI_same, ?_⟩ (by omega) (fun a => ?_) (fun a => hb'.1.1.2.1 a)
    · rw [wI_o a, wA_o (fun z => b ⟨z.1, Or.inr z.2⟩)]
    · rw [pI_place a, wA_o (fun z => absurd z.1 (by decide))]
    · by_cases e2 : k = 1 ∧ j = 0 ∧ f = 2
      · rw [e2.1, e2.2.1, e2.2.2, pI_same, pI_same]
      · have n34 : ¬ (k = 1 ∧ j = 0 ∧ f = 34) := fun w => z (Or.inr w)
        have n3 : ¬ (k = 14 ∧ j = 3) := fun w => z (Or.inl ⟨w.1, Or.inl w.2⟩)
        rw [pI_I, if_neg e2, pI_I, if_neg n34, s2.2.2.2.1 k j f n3, pI_I (f := 2), if_neg e2]
    · rw [wI_j (fun z => absurd z.1 (by decide)), wA_s]
      show (if 0 ≤ a ∧ a < 0 + n then mI M 14 jt (0 + (a - 0)) else mI M 14 3 a) = (if a < n then mI R 14 0 a else uP W' a)
      by_cases l : a < n
      · rw [if_pos (by omega), if_pos l, show 0 + (a - 0) = a by omega, ti a l]
      · rw [if_neg (by omega), if_neg l, pc a ha]
    · rw [wI_j (fun z => absurd z.1 (by decide)), wI_j (fun z => absurd z.1 (by decide)), s3, e14]
      show _ = (if a < n then mI R 14 0 a else uP W' a)
      by_cases l : a < n
      · rw [if_pos l, if_pos l]
      · rw [if_neg l, if_neg l, pr a ha]
    · rw [wI_j (fun z => absurd z.1 (by decide)), wA_o (fun z => absurd z.2 (by decide))]
      exact hc'.2.1.2.2.2 a a1 a2
    · have := hr'.2.2.1.2.2.2 a a1 a2
      rw [wI_j (fun z => absurd z.1 (by decide)), wI_j (fun z => absurd z.1 (by decide))] at this
      rw [wI_j (fun z => absurd z.1 (by decide)), wI_j (fun z => absurd z.1 (by decide)), q14 4 (by decide)]
      exact this
    · rw [pI_place (by decide), pI_same]
    · show isB (if a < n then mI R 14 0 a else uP W' a)
      by_cases l : a < n
      · rw [if_pos l]; exact tB a l
      · rw [if_neg l]; exact hb'.1.1.1 a
theorem rcx {A : Nat} (hA : A + 8 ≤ 64) (hp : ps_M R) : ∀ (k i fu : Nat) (N : me_M), i + k = 8 → k < fu → gf (fun k j _ => k = 14 ∧ j = 4) (fun _ _ _ => False) R N → (∀ b, mI N 14 4 b = wrb (mI R 14 4) A i v b) → ∃ N1, f_M_context_l27 0 (nI A) v fu N (nI i) = some (N1, 1) ∧ gf (fun k j _ => k = 14 ∧ j = 4) (fun _ _ _ => False) R N1 ∧ ∀ b, mI N1 14 4 b = wrb (mI R 14 4) A 8 v b := by
  intro k
  induction k with
  | zero =>
    intro i fu N e hf gN h3
    obtain ⟨fu, rfl⟩ : ∃ f, fu = f + 1 := ⟨fu - 1, by omega⟩
    rw [f_M_context_l27, if_pos (show (8 : Int32) ≤ nI i from (nI_lei (a := 8) (by decide) (by omega)).mpr (by omega))]
    rw [show i = 8 by omega] at h3
    exact ⟨N, rfl, gN, h3⟩
  | succ k ih =>
    intro i fu N e hf gN h3
    obtain ⟨fu, rfl⟩ : ∃ f, fu = f + 1 := ⟨fu - 1, by omega⟩
    have hN := gf_ps gN hp
    rw [f_M_context_l27, if_neg (show ¬ (8 : Int32) ≤ nI i from fun z => by have := (nI_lei (a := 8) (by decide) (by omega)).mp z; omega), rs_36 hN, bd_some, nI_add, rz_14_4 hN, nI_tn (by omega), gd_pos (ix_t (by omega) (by decide)), st_eq, nI_s, yb_s (by omega), nar_B isB_yb]
    refine ih (i + 1) fu _ (by omega) (by omega) (gf_trans gN (gf_I ⟨rfl, rfl⟩)) (fun b => ?_)
    by_cases eb : b = A + i
    · rw [eb, pI_same, wrb_in (by omega), show A + i - A = i by omega]
    · rw [pI_place eb, h3]
      by_cases l : A ≤ b ∧ b < A + i
      · rw [wrb_in l, wrb_in (by omega)]
      · rw [wrb_out l, wrb_out (by omega)]
theorem J_context (h : Iv M R) : ∃ r M1 R1, f_G_context M 0 x v = some (M1, r) ∧ f_M_context R 0 x v = some (R1, r) ∧ Iv M1 R1 := by
  have hi := Iv_thr (x := 0) h
  have ps0 : ps_M (wI R 1 0 0 0) := by
    obtain ⟨nm, g, tn, jt, tb, kb, vb, en, jk, jv, jh, W, hc, hr, hb, hp⟩ := h
    exact ps_W hr.1
  have r8 : mR M 0 0 8 = some 0 := by
    obtain ⟨nm, g, tn, jt, tb, kb, vb, en, jk, jv, jh, W, hc, hr, hb, hp⟩ := h
    exact hc.2.2.2.2.1.1.2.2
  by_cases c1 : x < 0
  · refine ⟨0, M, _, ?_, ?_, hi⟩
    · unfold f_G_context; rw [if_pos c1]
    · unfold f_M_context; rw [st_eq, if_pos c1]
  by_cases c2 : 64 ≤ x
  · refine ⟨0, M, _, ?_, ?_, hi⟩
    · unfold f_G_context; rw [if_neg c1, if_pos c2]
    · unfold f_M_context; rw [st_eq, if_neg c1, if_pos (by rw [i32_le] at c2; rw [i32_lt]; have c2 : (64 : Int) ≤ x.toInt := c2; show (56 : Int) < x.toInt; omega)]
  obtain ⟨A, A1, eA⟩ := of_rng (n := 64) c1 c2 (by decide)
  have rem : ∀ A, A < 64 → jirem (nI A) 8 = 0 → A + 8 ≤ 64 := by decide
  by_cases c3 : jirem x 8 = 0
  · have A8 : A + 8 ≤ 64 := rem A A1 (by rw [← eA]; exact c3)
    obtain ⟨nm, g, tn, jt, tb, kb, vb, en, jk, jv, jh, W, hc, hr, hb, hp⟩ := hi
    obtain ⟨N, n1, n2, n3, n4, n5, n6, n7⟩ := kctxw (v := v) (hc.2.1.1.1.1.2.2.2.2.1) hc.2.1.1.1.2.1.1 A8
    obtain ⟨S, s1, s2, s3⟩ := rcx (v := v) A8 ps0 8 0 fuel (wI R 1 0 0 0) (by omega) (by unfold fuel; omega) gf_refl (fun b => by rw [wrb_out (by omega)])
    refine ⟨1, N, S, ?_, ?_, ?_⟩
    · unfold f_G_context; rw [if_neg c1, if_neg c2, if_pos c3, r8, bd_some, eA, n1, bd_some]
    · unfold f_M_context; rw [st_eq, if_neg c1, if_neg (by rw [eA]; intro z; have := (nI_lti (a := 56) (by decide) (by omega)).mp z; omega), if_pos c3, eA]; exact s1
    · refine Iv_w (n := uZ W) (P := uP W) (C := wrb (uC W) A 8 v) hc hr hb hp n2.1 n2.2.1 n2.2.2.1 (fun k j a b => n4 k j a (fun z => b ⟨z.1, Or.inl z.2⟩)) (fun f a b => n5 f b) n3 (gf_mono s2 (fun k j f z => Or.inl ⟨z.1, Or.inr z.2⟩) (fun _ _ _ z => z)) (fun a ha => ⟨?_, ?_⟩) (fun a a1 a2 => ⟨?_, ?_⟩) ⟨?_, ?_⟩ ?_ hb.1.1.1 (fun a => ?_)
      · rw [n4 14 3 (by decide) (by decide)]; exact hc.2.1.2.1.2.2.1 a ha
      · rw [s2.2.2.2.1 14 3 a (fun z => absurd z.2 (by decide))]; exact hr.2.2.1.2.1.2.2.1 a ha
      · have := hc.2.1.2.2.2 a a1 a2
        rw [n7]
        unfold wrb
        rw [this]
      · have : mI (wI R 1 0 0 0) 14 4 a = uC W a := hr.2.2.1.2.2.2 a a1 a2
        rw [s3]
        unfold wrb
        rw [this]
      · rw [n5 8 (by decide)]; exact hc.2.1.2.1.2.2.2.1.1
      · rw [s2.2.2.2.1 1 0 34 (fun z => absurd z.1 (by decide))]; exact hr.2.2.1.2.1.2.2.2.1.1
      · exact hc.2.1.2.1.2.2.2.1.2
      · unfold wrb
        by_cases l : A ≤ a ∧ a < A + 8
        · rw [if_pos l]; exact isB_yb
        · rw [if_neg l]; exact hb.1.1.2.1 a
  · refine ⟨0, M, _, ?_, ?_, hi⟩
    · unfold f_G_context; rw [if_neg c1, if_neg c2, if_neg c3]
    · unfold f_M_context; rw [st_eq, if_neg c1, if_neg c3, ite_self]
end JPC
