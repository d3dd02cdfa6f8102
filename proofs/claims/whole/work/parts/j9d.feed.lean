/-! PURE: feed, both sides. -/
section JFF
variable {nm g tn tn2 jt i : Nat} {tb : Nat → Prop} {kb vb : Int32 → Int32} {en jk jv jh : Nat → Nat} {W W2 : tyU} {M N R S : me_M} {x1 x2 x3 x4 x5 : Int32} {f : Nat → Int32}
theorem cI_k2 (h : cI_ nm g tn jt tb kb vb en jk jv jh W M) (hw : cWr nm tb kb vb en jk jv jh W2 N) (hZ : mZ N = mZ M) (hN : mN N = mN M) (hR : ∀ k j f, ¬ (k = 5 ∧ j = 0 ∧ (f = 16 ∨ f = 18)) → mR N k j f = mR M k j f) (h13 : mI N 13 3 0 = mI M 13 3 0 ∧ mI N 13 4 0 = mI M 13 4 0) (hu : ∀ s, s < mN M 9 → ∃ u, us N s u) (h3 : mI N 0 0 3 = mI M 0 0 3) (h1 : mI N 0 0 1 = nI tn2) (ht : tn2 ≤ tl g) : cI_ nm g tn2 jt tb kb vb en jk jv jh W2 N := by
  obtain ⟨c1, c2, c3, c4, ⟨⟨c5, c6, c7⟩, ⟨c8, c9, c10, c11⟩, c12⟩, ⟨c13, c14⟩, ⟨c15, c16, c17, c18, c19, c20⟩, c21⟩ := h
  have rr : ∀ k j f, ¬ k = 5 → mR N k j f = mR M k j f := fun k j f hk => hR k j f (fun z => hk z.1)
  refine ⟨cWh_k c1 (fun k j f a _ _ _ _ _ => rr k j f a) (fun k j _ _ _ => by rw [hZ]) (by rw [hN]; exact ⟨rfl, rfl, rfl, rfl⟩) h13 hu (fun ka wa q => cRoom_N q hN), hw, c3, ?_, ⟨⟨?_, ?_, ?_⟩, ⟨?_, ?_, ?_, ?_⟩, ?_⟩, ⟨h3.trans c13, h1⟩, ⟨c15, by rw [hZ]; exact c16, ht, by rw [hN]; exact c18, c19, c20⟩, by rw [hN]; exact c21⟩
  · unfold cCt at c4 ⊢; rw [hN]; exact c4
  · rw [rr 0 0 0 (by decide)]; exact c5
  · rw [rr 0 0 2 (by decide)]; exact c6
  · rw [rr 0 0 8 (by decide)]; exact c7
  · rw [rr 6 0 0 (by decide)]; exact c8
  · rw [rr 6 0 1 (by decide)]; exact c9
  · rw [rr 6 0 2 (by decide)]; exact c10
  · rw [rr 6 0 3 (by decide)]; exact c11
  · rw [hZ]; exact c12
theorem Iv_fed (hc : cI_ nm g tn jt tb kb vb en jk jv jh W M) (hr : rI_ nm tn tb kb vb en W R) (hb : bI_ nm tn jt tb kb vb en W M R) (hp : pI_ nm kb vb M R) (gN : gf (fun k j q => (k = 14 ∧ j = jt) ∨ (k = 0 ∧ j = 0 ∧ q = 1)) (fun _ _ _ => False) M N) (n1 : mI N 0 0 1 = nI tn2) (l : tn2 ≤ tl g) (gS : gf (fun k j q => (k = 14 ∧ j = 0) ∨ (k = 1 ∧ j = 0 ∧ q = 2)) (fun _ _ _ => False) R S) (s1 : mI S 1 0 2 = nI tn2) (e : ∀ b, b < tn2 → mI N 14 jt b = mI S 14 0 b ∧ isB (mI N 14 jt b)) : Iv N S := by
  have iN : ∀ k j, ¬ (k = 14 ∧ j = jt) → ¬ k = 0 → mI N k j = mI M k j := fun k j a b => funext (fun q => gN.2.2.2.1 k j q (fun z => z.elim a (fun y => b y.1)))
  have i0 : ∀ q, ¬ q = 1 → mI N 0 0 q = mI M 0 0 q := fun q a => gN.2.2.2.1 0 0 q (fun z => z.elim (fun y => absurd y.1 (by decide)) (fun y => a y.2.2))
  have lN : ∀ k j, mL N k j = mL M k j := fun k j => funext (fun q => gN.2.2.2.2 k j q (fun z => z))
  have iS : ∀ k j, ¬ (k = 14 ∧ j = 0) → ¬ k = 1 → mI S k j = mI R k j := fun k j a b => funext (fun q => gS.2.2.2.1 k j q (fun z => z.elim a (fun y => b y.1)))
  have i1 : ∀ q, ¬ q = 2 → mI S 1 0 q = mI R 1 0 q := fun q a => gS.2.2.2.1 1 0 q (fun z => z.elim (fun y => absurd y.1 (by decide)) (fun y => a y.2.2))
  have lS : ∀ k j, mL S k j = mL R k j := fun k j => funext (fun q => gS.2.2.2.2 k j q (fun z => z))
  have jd := hc.2.2.1
  obtain ⟨c15, c16, c17, c18, c19, c20⟩ := hc.2.2.2.2.2.2.1
  obtain ⟨r1, r2, r3, ⟨r4, r5⟩, r6⟩ := hr
  obtain ⟨b1, b2, ⟨b3, b4, b5, b6⟩, b7, b8⟩ := hb
  have hps : ps_M S := gf_ps gS r1
  refine ⟨nm, g, tn2, jt, tb, kb, vb, en, jk, jv, jh, W, ?_, ⟨hps, ?_, ⟨?_, ?_, ?_, ?_⟩, ⟨?_, s1⟩, ?_⟩, ⟨b1, e, ⟨?_, ?_, ?_, ?_⟩, ?_, ?_⟩, ?_⟩
  · refine cI_k2 hc (cWr_k hc.2.1 hc.2.2.1 gN.2.2.1 (fun _ _ _ _ => by rw [gN.1]) (fun m => iN 12 m (by omega) (by omega)) (fun j hj => iN 14 j (fun z => ?_) (by omega)) (fun j _ => iN 15 j (by omega) (by omega)) ⟨by rw [iN 5 0 (by omega) (by omega)], by rw [iN 5 0 (by omega) (by omega)]⟩ ⟨lN 16 4, lN 5 0⟩) gN.2.2.1 gN.2.1 (fun _ _ _ _ => by rw [gN.1]) ⟨by rw [iN 13 3 (by omega) (by omega)], by rw [iN 13 4 (by omega) (by omega)]⟩ (us_all hc (fun j => iN 10 j (by omega) (by omega)) (fun j => iN 9 j (by omega) (by omega)) (fun j => lN 11 j)) (i0 3 (by decide)) n1 l
    rcases hj with q | q | ⟨m, m1, m2⟩
    · omega
    · omega
    · have := c20 m m1; omega
  · unfold kv; rw [iS 14 8 (by omega) (by omega)]; exact r2
  · exact rSh_ps r3.1 hps (fun j _ => iS 13 j (by omega) (by omega))
  · rw [iS 14 3 (by omega) (by omega), i1 34 (by decide), i1 38 (by decide), lS 16 4, lS 1 0]
    exact mo_Tb (T := Tb W) r3.2.1
  · rw [iS 15 0 (by omega) (by omega), iS 14 1 (by omega) (by omega), iS 14 2 (by omega) (by omega)]
    exact r3.2.2.1
  · rw [iS 14 4 (by omega) (by omega)]; exact r3.2.2.2
  · rw [i1 3 (by decide)]; exact r4
  · exact ⟨by rw [iS 15 0 (by omega) (by omega)]; exact r6.1, vz_k r6.2 (fun z => by rw [i1 4 (by decide)] at z; exact z) (fun x _ => by rw [iS 14 2 (by omega) (by omega)])⟩
  · rw [iN 5 0 (by omega) (by omega), i1 40 (by decide)]; exact b3
  · rw [iN 5 0 (by omega) (by omega), i1 41 (by decide)]; exact b4
  · rw [iN 5 0 (by omega) (by omega), i1 42 (by decide)]; exact b5
  · rw [iN 5 0 (by omega) (by omega), i1 74 (by decide)]; exact b6
  · rw [i0 13 (by decide), i1 4 (by decide)]; exact b7
  · rw [i0 13 (by decide)]; exact b8
  · exact pI_r (pI_c hp (fun q a b => i0 q (by omega)) (fun k j hk => iN k j (by omega) (by omega)) (fun j _ => iN 15 j (by omega) (by omega)) (fun j => lN 16 j)) (fun q hq => i1 q (by omega)) (fun j _ => iS 13 j (by omega) (by omega)) (fun j _ => iS 15 j (by omega) (by omega)) (fun j _ => lS 16 j)
def xw (x1 x2 x3 x4 x5 : Int32) (k : Nat) : Int32 := if k = 0 then x1 else if k = 1 then x2 else if k = 2 then x3 else if k = 3 then x4 else x5
def ff (x1 x2 x3 x4 x5 : Int32) (i : Nat) : Int32 := wb (xw x1 x2 x3 x4 x5 (i / 4)) (i % 4)
theorem ff_k {q k : Nat} (h : k < 4) : ff x1 x2 x3 x4 x5 (4 * q + k) = wb (xw x1 x2 x3 x4 x5 q) k := by
  unfold ff
  rw [show (4 * q + k) / 4 = q by omega, show (4 * q + k) % 4 = k by omega]
theorem cfeed (hj : mR M 0 0 0 = some jt) (ht : mI M 0 0 1 = nI tn) (hz : tn + 20 ≤ mZ M 14 jt) (hb : tn < 69000) : ∃ N, f_G_feed_b52 0 x1 x2 x3 x4 x5 M = some (N, 1) ∧ fw jt tn (ff x1 x2 x3 x4 x5) M 20 N := by
  have a0 : fw jt tn (ff x1 x2 x3 x4 x5) M 0 M := ⟨gf_refl, ht, fun b hb => (if_pos (by omega)).symm⟩
  obtain ⟨N1, p1, q1⟩ := cw_4 (x := x1) a0 hj (by omega) (by omega) (fun k hk => by rw [Nat.zero_add]; have := ff_k (x1 := x1) (x2 := x2) (x3 := x3) (x4 := x4) (x5 := x5) (q := 0) hk; rw [Nat.mul_zero, Nat.zero_add] at this; exact this)
  obtain ⟨N2, p2, q2⟩ := cw_4 (x := x2) q1 hj (by omega) (by omega) (fun k hk => ff_k (q := 1) hk)
  obtain ⟨N3, p3, q3⟩ := cw_4 (x := x3) q2 hj (by omega) (by omega) (fun k hk => ff_k (q := 2) hk)
  obtain ⟨N4, p4, q4⟩ := cw_4 (x := x4) q3 hj (by omega) (by omega) (fun k hk => ff_k (q := 3) hk)
  obtain ⟨N5, p5, q5⟩ := cw_4 (x := x5) q4 hj (by omega) (by omega) (fun k hk => ff_k (q := 4) hk)
  refine ⟨N5, ?_, q5⟩
  unfold f_G_feed_b52
  rw [p1, bd_some, p2, bd_some, p3, bd_some, p4, bd_some, p5, bd_some]
def fsr (tn : Nat) (f : Nat → Int32) (R : me_M) (i : Nat) (S : me_M) : Prop := gf (fun k j q => (k = 14 ∧ j = 0) ∨ (k = 1 ∧ j = 0 ∧ q = 2)) (fun _ _ _ => False) R S ∧ mI S 1 0 2 = nI tn ∧ ∀ b, b < tn + i → mI S 14 0 b = if b < tn then mI R 14 0 b else f (b - tn)
theorem fsr_s {v : Int32} (h : fsr tn f R i S) (hv : v = f i) : fsr tn f R (i + 1) (wI S 14 0 (tn + i) v) := by
  obtain ⟨h1, h2, h3⟩ := h
  refine ⟨gf_trans h1 (gf_I (Or.inl ⟨rfl, rfl⟩)), ?_, fun b hb => ?_⟩
  · rw [wI_j (fun z => absurd z.1 (by decide))]; exact h2
  · by_cases e : b = tn + i
    · rw [e, pI_same, if_neg (by omega), hv, show tn + i - tn = i by omega]
    · rw [pI_place e]; exact h3 b (by omega)
theorem xw_l (k22 : me_M → Int32 → Option (me_M × Int32)) (h : i < 20) : (if 4 ≤ nI i then (if 8 ≤ nI i then (if 12 ≤ nI i then (if 16 ≤ nI i then f_M_feed_b75 k22 0 x1 x2 x3 x4 x5 S (nI i) x5 else f_M_feed_b75 k22 0 x1 x2 x3 x4 x5 S (nI i) x4) else f_M_feed_b75 k22 0 x1 x2 x3 x4 x5 S (nI i) x3) else f_M_feed_b75 k22 0 x1 x2 x3 x4 x5 S (nI i) x2) else f_M_feed_b75 k22 0 x1 x2 x3 x4 x5 S (nI i) x1) = f_M_feed_b75 k22 0 x1 x2 x3 x4 x5 S (nI i) (xw x1 x2 x3 x4 x5 (i / 4)) := by
  have t : ∀ a, a < 100 → ((nI a ≤ nI i) ↔ a ≤ i) := fun a ha => nI_lei (by omega) (by omega)
  have t4 : (4 : Int32) ≤ nI i ↔ 4 ≤ i := t 4 (by omega)
  have t8 : (8 : Int32) ≤ nI i ↔ 8 ≤ i := t 8 (by omega)
  have t12 : (12 : Int32) ≤ nI i ↔ 12 ≤ i := t 12 (by omega)
  have t16 : (16 : Int32) ≤ nI i ↔ 16 ≤ i := t 16 (by omega)
  have q : i / 4 = 0 ∨ i / 4 = 1 ∨ i / 4 = 2 ∨ i / 4 = 3 ∨ i / 4 = 4 := by omega
  rcases q with q | q | q | q | q
  · rw [q, if_neg (fun z => by have := t4.mp z; omega)]; rfl
  · rw [q, if_pos (t4.mpr (by omega)), if_neg (fun z => by have := t8.mp z; omega)]; rfl
  · rw [q, if_pos (t4.mpr (by omega)), if_pos (t8.mpr (by omega)), if_neg (fun z => by have := t12.mp z; omega)]; rfl
  · rw [q, if_pos (t4.mpr (by omega)), if_pos (t8.mpr (by omega)), if_pos (t12.mpr (by omega)), if_neg (fun z => by have := t16.mp z; omega)]; rfl
  · rw [q, if_pos (t4.mpr (by omega)), if_pos (t8.mpr (by omega)), if_pos (t12.mpr (by omega)), if_pos (t16.mpr (by omega))]; rfl
theorem rf_1 {fu : Nat} (h : fsr tn (ff x1 x2 x3 x4 x5) R i S) (hp : ps_M R) (hb : tn + 20 ≤ 65536) (hi : i < 20) : ∃ S1, f_M_feed_l22 0 x1 x2 x3 x4 x5 (fu + 1) S (nI i) = f_M_feed_l22 0 x1 x2 x3 x4 x5 fu S1 (nI (i + 1)) ∧ fsr tn (ff x1 x2 x3 x4 x5) R (i + 1) S1 := by
  have h0 := h
  obtain ⟨h1, h2, h3⟩ := h
  have hps : ps_M S := gf_ps h1 hp
  refine ⟨_, ?_, fsr_s (v := ff x1 x2 x3 x4 x5 i) h0 rfl⟩
  have t20 : ¬ (20 : Int32) ≤ nI i := fun z => by
    have := (nI_lei (a := 20) (by omega) (by omega)).mp z
    omega
  have rm : ∀ i, i < 20 → jirem (nI i) 4 = nI (i % 4) := by decide
  rw [f_M_feed_l22, if_neg t20, xw_l _ hi]
  unfold f_M_feed_b75
  rw [rs_1 hps, bd_some, h2, nI_add, nI_tn (by omega), rz_14_0 hps, gd_pos (ix_t (by omega) (by decide)), st_eq, rm i hi, nI_s, show (jishr (xw x1 x2 x3 x4 x5 (i / 4)) (24 - 8 * nI (i % 4))).toInt8.toInt32 = ff x1 x2 x3 x4 x5 i from rfl, show vp_nar .byte (ff x1 x2 x3 x4 x5 i) = ff x1 x2 x3 x4 x5 i from wb_n]
theorem rf_l (hp : ps_M R) (hb : tn + 20 ≤ 65536) : ∀ (k i fu : Nat) (S : me_M), i + k = 20 → k < fu → fsr tn (ff x1 x2 x3 x4 x5) R i S → ∃ S1, f_M_feed_l22 0 x1 x2 x3 x4 x5 fu S (nI i) = some (wI S1 1 0 2 (nI (tn + 20)), 1) ∧ fsr tn (ff x1 x2 x3 x4 x5) R 20 S1 := by
  intro k
  induction k with
  | zero =>
    intro i fu S e hf h
    obtain ⟨fu, rfl⟩ : ∃ q, fu = q + 1 := ⟨fu - 1, by omega⟩
    have : i = 20 := by omega
    rw [this] at h ⊢
    refine ⟨S, ?_, h⟩
    rw [f_M_feed_l22, if_pos (by decide), st_eq, h.2.1, show nI tn + 20 = nI (tn + 20) from nI_add tn 20]
  | succ k ih =>
    intro i fu S e hf h
    obtain ⟨fu, rfl⟩ : ∃ q, fu = q + 1 := ⟨fu - 1, by omega⟩
    obtain ⟨S1, p, q⟩ := rf_1 (fu := fu) h hp hb (by omega)
    rw [p]
    exact ih (i + 1) fu S1 (by omega) (by omega) q
theorem J_feed (h : Iv M R) : ∃ r M1 R1, f_G_feed M 0 x1 x2 x3 x4 x5 = some (M1, r) ∧ f_M_feed R 0 x1 x2 x3 x4 x5 = some (R1, r) ∧ Iv M1 R1 := by
  have h0 := Iv_thr (x := 0) h
  obtain ⟨nm, g, tn, jt, tb, kb, vb, en, jk, jv, jh, W, hc, hr, hb, hp⟩ := Iv_thr (x := 0) h
  obtain ⟨R0, eR0⟩ : ∃ R0, R0 = wI R 1 0 0 0 := ⟨_, rfl⟩
  rw [← eR0] at hr hb hp h0
  have t1 : mI M 0 0 1 = nI tn := hc.2.2.2.2.2.1.2
  have t2 : mI R0 1 0 2 = nI tn := hr.2.2.2.1.2
  have n4 : nm ≤ 4 := hb.1.2.2.1.1
  obtain ⟨tg, tz, tt, jl, _, _⟩ := hc.2.2.2.2.2.2.1
  have r0 : mR M 0 0 0 = some jt := hc.2.2.2.2.1.1.1
  have tl6 : tl g ≤ 65536 := by
    have : ∀ q, q < 7 → tl q ≤ 65536 := by decide
    exact this g (by omega)
  have a20 : nI tn + 20 = nI (tn + 20) := nI_add tn 20
  have l65 : (nI tn + 20 ≤ 65536) ↔ tn + 20 ≤ 65536 := by
    rw [a20]; exact nI_lei (b := 65536) (by omega) (by omega)
  by_cases c1 : tn + 20 ≤ 65536
  · obtain ⟨S, p1, p2⟩ := rf_l (x1 := x1) (x2 := x2) (x3 := x3) (x4 := x4) (x5 := x5) hr.1 c1 20 0 fuel R0 (by omega) (by unfold fuel; omega) ⟨gf_refl, t2, fun b hb => (if_pos (by omega)).symm⟩
    have eR : f_M_feed R 0 x1 x2 x3 x4 x5 = some (wI S 1 0 2 (nI (tn + 20)), 1) := by
      unfold f_M_feed
      rw [st_eq, ← eR0, t2, if_pos (l65.mpr c1)]
      exact p1
    have fin : ∀ {M2 N : me_M} {g2 jt2 : Nat}, cI_ nm g2 tn jt2 tb kb vb en jk jv jh W M2 → bI_ nm tn jt2 tb kb vb en W M2 R0 → pI_ nm kb vb M2 R0 → tn + 20 ≤ tl g2 → fw jt2 tn (ff x1 x2 x3 x4 x5) M2 20 N → Iv N (wI S 1 0 2 (nI (tn + 20))) := fun {M2 N g2 jt2} k1 k2 k3 k4 k5 => by
      refine Iv_fed k1 hr k2 k3 k5.1 k5.2.1 k4 (gf_trans p2.1 (gf_I (Or.inr ⟨rfl, rfl, rfl⟩))) pI_same (fun b hb => ?_)
      rw [k5.2.2 b hb, wI_j (fun z => absurd z.1 (by decide)), p2.2.2 b hb]
      by_cases e : b < tn
      · rw [if_pos e, if_pos e]; exact k2.2.1 b e
      · rw [if_neg e, if_neg e]; exact ⟨rfl, wb_B⟩
    by_cases c2 : tn + 20 ≤ tl g
    · obtain ⟨N, q1, q2⟩ := cfeed (x1 := x1) (x2 := x2) (x3 := x3) (x4 := x4) (x5 := x5) r0 t1 (by rw [tz]; exact c2) (by omega)
      refine ⟨1, N, _, ?_, eR, fin hc hb hp c2 q2⟩
      unfold f_G_feed
      rw [t1, if_pos (l65.mpr c1), r0, bd_some, tz, if_pos (by rw [a20]; exact (nI_lei (by omega) (by omega)).mpr c2)]
      exact q1
    · have g6 : g < 6 := by
        by_cases e : g = 6
        · rw [e] at c2
          exact absurd c1 c2
        · omega
      obtain ⟨k1, k2, k3⟩ := grow hc hb hp g6 rfl
      obtain ⟨v1, v2, v3, v4, v5, v6⟩ := tl_u g6
      obtain ⟨N, q1, q2⟩ := cfeed (x1 := x1) (x2 := x2) (x3 := x3) (x4 := x4) (x5 := x5) k1.2.2.2.2.1.1.1 k1.2.2.2.2.2.1.2 (by rw [k1.2.2.2.2.2.2.1.2.1]; omega) (by omega)
      refine ⟨1, N, _, ?_, eR, fin k1 k2 k3 (by omega) q2⟩
      unfold f_G_feed
      rw [t1, if_pos (l65.mpr c1), r0, bd_some, tz, if_neg (by rw [a20]; exact fun z => c2 ((nI_lei (by omega) (by omega)).mp z)), show f_Arrays_copyOf M jt (jimin (2 * Int32.ofNat (tl g)) 65536) = _ from grow_f hc n4 g6, b2_some, st_eq]
      exact q1
  · refine ⟨0, M, R0, ?_, ?_, h0⟩
    · unfold f_G_feed
      rw [t1, if_neg (fun z => c1 (l65.mp z))]
    · unfold f_M_feed
      rw [st_eq, ← eR0, t2, if_neg (fun z => c1 (l65.mp z))]
end JFF
