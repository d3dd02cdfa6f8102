/-! PURE: map. -/
section JMA
variable {nm g tn jt a b c : Nat} {tb : Nat → Prop} {kb vb : Int32 → Int32} {en jk jv jh : Nat → Nat} {W : tyU} {M N N0 R S : me_M} {t : Int32}
def k_x (kb : Int32 → Int32) (nm : Nat) (x : Int32) : Int32 → Int32 := fun i => if i = nI nm then x else kb i
theorem kx_s {x : Int32} : k_x kb nm x (nI nm) = x := if_pos rfl
theorem kx_o {x : Int32} {m : Nat} (h : m < nm) (hn : nm < 4) : k_x kb nm x (nI m) = kb (nI m) := if_neg (fun z => by have := nI_inj (by omega) (by omega) z; omega)
def w_x (W : tyU) (nm : Nat) (t : Int32) : tyU := (uP W, uZ W, uC W, uT W, uN W, uL W, fup (uH W) nm (fun _ => ¬ t = 1), uK W, fup (uV W) nm (fun _ _ => 0))
theorem ex_x {a0 h0 : Nat} (hn : nm < 4) : ex_ nm tb (fup tb nm (t = 1)) kb vb (k_x kb nm (nI a)) (k_x vb nm (nI b)) en jk jv jh (fup en nm c) (fup jk nm a0) (fup jv nm (a0 + 1)) (fup jh nm h0) W (w_x W nm t) := by
  refine ⟨fun m hm => ?_, rfl, rfl, rfl, rfl, rfl, rfl⟩
  have e : ¬ m = nm := by omega
  exact ⟨fup_o e, kx_o hm hn, kx_o hm hn, fup_o e, fup_o e, fup_o e, fup_o e, fup_o e, rfl, fup_o e⟩
theorem Iv_map (hc : cI_ nm g tn jt tb kb vb en jk jv jh W M) (hr : rI_ nm tn tb kb vb en W R) (hb : bI_ nm tn jt tb kb vb en W M R) (hp : pI_ nm kb vb M R) (hn : nm < 4) (w13 : mI M 0 0 13 = 0) (ht : t = 0 ∨ t = 1) (ha : 1 ≤ a ∧ a ≤ 16) (ha4 : ¬ t = 1 → a = 4) (hb1 : 1 ≤ b ∧ b ≤ 64) (hc1 : 1 ≤ c ∧ c ≤ 64) (n0 : gf (fun k j _ => k = 15 ∧ j = mN M 15) (fun _ _ _ => False) (snD M nm t (nI a) (nI b) (nI c) (if t = 1 then c * a else 0) (c * b) c) N0) (n1 : ∀ i, i < c → mI N0 15 (mN M 15) i = sth t) (eN : N = wI (wR N0 19 0 nm (some nm)) 0 0 3 (nI (nm + 1))) (s0 : gf (fun k j q => k = 15 ∧ j = 0 ∧ 64 * nm ≤ q) (fun _ _ _ => False) (rN R nm t (nI a) (nI b) (nI c)) S) (s1 : ∀ i, i < 64 → mI S 15 0 (64 * nm + i) = rth t c i) : Iv N (wI S 1 0 3 (nI (nm + 1))) := by
  obtain ⟨a0, ea0⟩ : ∃ a0, a0 = mN M 14 := ⟨_, rfl⟩
  obtain ⟨h0, eh0⟩ : ∃ h0, h0 = mN M 15 := ⟨_, rfl⟩
  obtain ⟨L0, eL0⟩ : ∃ L0, L0 = if t = 1 then c * a else 0 := ⟨_, rfl⟩
  rw [← eL0] at n0
  rw [← eh0] at n0 n1
  have x := ex_x (tb := tb) (kb := kb) (vb := vb) (en := en) (jk := jk) (jv := jv) (jh := jh) (W := W) (t := t) (a := a) (b := b) (c := c) (a0 := a0) (h0 := h0) hn
  have n12 : mN M 12 = nm := hc.2.2.2.1.2.1
  have i0 : ∀ k j, ¬ (k = 15 ∧ j = h0) → mI N0 k j = mI (snD M nm t (nI a) (nI b) (nI c) L0 (c * b) c) k j := fun k j z => funext (fun q => n0.2.2.2.1 k j q z)
  have iN : ∀ k j, ¬ (k = 0 ∧ j = 0) → mI N k j = mI N0 k j := fun k j z => by rw [eN, wI_o z, pI_R]
  have eI : ∀ k j, ¬ (k = 14 ∧ mN M 14 ≤ j) → ¬ (k = 15 ∧ mN M 15 ≤ j) → ¬ (k = 12 ∧ nm ≤ j) → ¬ (k = 0 ∧ j = 0) → mI N k j = mI M k j := fun k j z1 z2 z3 z4 => by
    rw [iN k j z4, i0 k j (by omega), snD_I n12 (by omega) z1 z2]
  have e00 : ∀ f, ¬ f = 3 → mI N 0 0 f = mI M 0 0 f := fun f hf => by
    rw [eN, pI_place hf, pI_R, i0 0 0 (by omega), snD_I n12 (by omega) (by omega) (by omega)]
  have e03 : mI N 0 0 3 = nI (nm + 1) := by rw [eN, pI_same]
  have nZ : mZ N = mZ (snD M nm t (nI a) (nI b) (nI c) L0 (c * b) c) := by rw [eN, pZ_I, pZ_R, n0.2.2.1]
  have nN : mN N = mN (snD M nm t (nI a) (nI b) (nI c) L0 (c * b) c) := by rw [eN, pN_I, pN_R, n0.2.1]
  have nR : ∀ k j f, ¬ (k = 19 ∧ j = 0 ∧ f = nm) → mR N k j f = mR (snD M nm t (nI a) (nI b) (nI c) L0 (c * b) c) k j f := fun k j f z => by
    rw [eN, pR_I, pR_R, if_neg z, n0.1]
  have eL : ∀ k j, ¬ k = 12 → ¬ k = 14 → ¬ k = 15 → mL N k j = mL M k j := fun k j z1 z2 z3 => by
    rw [eN, pL_I, pL_R, show mL N0 k j = _ from funext (fun q => n0.2.2.2.2 k j q (fun z => z)), snD_L z1 z2 z3]
  have n1_ : ∀ k, ¬ k = 12 → ¬ k = 14 → ¬ k = 15 → mN N k = mN M k := fun k z1 z2 z3 => by
    rw [nN, snD_N, N1_o z3, N1_o z2, N1_o z2, N1_o z1]
  have N12 : mN N 12 = nm + 1 := by rw [nN, snD_N, N1_o (by decide), N1_o (by decide), N1_o (by decide), N1_s, n12]
  have N14 : mN N 14 = a0 + 2 := by rw [nN, snD_N, N1_o (by decide), N1_s, N1_s, N1_o (by decide), ea0]
  have N15 : mN N 15 = h0 + 1 := by rw [nN, snD_N, N1_s, N1_o (by decide), N1_o (by decide), N1_o (by decide), eh0]
  have hC : cCt g (nm + 1) N := by
    obtain ⟨⟨k0, k1, k2, k3, k4, k5, k6, k7, k8⟩, k12, k13, k14, k15, k16, k17, k19⟩ := hc.2.2.2.1
    refine ⟨⟨?_, ?_, ?_, ?_, ?_, ?_, ?_, ?_, ?_⟩, N12, ?_, ?_, ?_, ?_, ?_, ?_⟩
    · rw [n1_ 0 (by decide) (by decide) (by decide)]; exact k0
    · rw [n1_ 1 (by decide) (by decide) (by decide)]; exact k1
    · rw [n1_ 2 (by decide) (by decide) (by decide)]; exact k2
    · rw [n1_ 3 (by decide) (by decide) (by decide)]; exact k3
    · rw [n1_ 4 (by decide) (by decide) (by decide)]; exact k4
    · rw [n1_ 5 (by decide) (by decide) (by decide)]; exact k5
    · rw [n1_ 6 (by decide) (by decide) (by decide)]; exact k6
    · rw [n1_ 7 (by decide) (by decide) (by decide)]; exact k7
    · rw [n1_ 8 (by decide) (by decide) (by decide)]; exact k8
    · rw [n1_ 13 (by decide) (by decide) (by decide)]; exact k13
    · rw [N14]; omega
    · rw [N15]; omega
    · rw [n1_ 16 (by decide) (by decide) (by decide)]; exact k16
    · rw [n1_ 17 (by decide) (by decide) (by decide)]; exact k17
    · rw [n1_ 19 (by decide) (by decide) (by decide)]; exact k19
  have k14 : mN M 14 = 4 + g + 2 * nm := hc.2.2.2.1.2.2.2.1
  have k15 : mN M 15 = 7 + nm := hc.2.2.2.1.2.2.2.2.1
  obtain ⟨a1, a2, a3⟩ := cN_k (N := N) (j2 := jt) hc (fun k j f z1 z2 z3 z4 z5 => by rw [nR k j f (by omega), snD_R n12 (by omega) z2 z3]) (fun k j z1 z2 => by rw [nZ, snD_Z z1 z2]) eI eL hC hc.2.2.2.2.2.2.1.1 (by omega) ⟨n1_ 9 (by decide) (by decide) (by decide), n1_ 10 (by decide) (by decide) (by decide), n1_ 11 (by decide) (by decide) (by decide), n1_ 18 (by decide) (by decide) (by decide)⟩ (by rw [nR 0 0 0 (by omega), snD_R n12 (by omega) (by omega) (by omega)]; exact hc.2.2.2.2.1.1.1)
  have i12 : ∀ f, mI N 12 nm f = mI (snA M nm t (nI a) (nI b) (nI c)) 12 nm f := fun f => by rw [iN 12 nm (by omega), i0 12 nm (by omega), snD_12]
  have ka : kn (k_x kb nm (nI a)) nm = a := by show (k_x kb nm (nI a) (nI nm)).toNatClampNeg = a; rw [kx_s]; exact nI_tn (by omega)
  have kv_ : kn (k_x vb nm (nI b)) nm = b := by show (k_x vb nm (nI b) (nI nm)).toNatClampNeg = b; rw [kx_s]; exact nI_tn (by omega)
  have ett : fup tb nm (t = 1) nm = (t = 1) := fup_s
  have nU : ∀ i, uH (w_x W nm t) nm i ↔ ¬ fup tb nm (t = 1) nm := fun i => by
    rw [ett]
    show fup (uH W) nm (fun _ => ¬ t = 1) nm i ↔ _
    rw [fup_s]
  have nv : ∀ i q, uV (w_x W nm t) nm i q = 0 := fun i q => by
    show fup (uV W) nm (fun _ _ => 0) nm i q = 0
    rw [fup_s]
  have nK : fup tb nm (t = 1) nm → ∀ i, ¬ uH (w_x W nm t) nm i := fun z i y => (nU i).mp y z
  have cw := cWr_x a2 x hn (by rw [eN, pR_I, pR_R, if_pos ⟨rfl, rfl, rfl⟩]) (by
    rw [ka, kv_, ett, fup_s, fup_s, fup_s, fup_s]
    refine ⟨⟨by rw [i12, snA_1], by rw [i12, snA_2], by rw [i12, snA_3]⟩, ⟨by rw [nR 12 nm 4 (by omega), snD_r4, ea0], by rw [nR 12 nm 5 (by omega), snD_r5, ea0], by rw [nR 12 nm 6 (by omega), snD_r6, eh0]⟩, ⟨fun z => by rw [nZ, ea0, snD_Zk, eL0, if_pos z], by rw [nZ, ea0, snD_Zv], by rw [nZ, eh0, snD_Zh]⟩, ?_, ⟨by omega, by omega, by omega⟩, ha4⟩
    rw [i12, snA_0]
    rcases ht with q | q
    · rw [q]; decide
    · rw [q]; decide) (by rw [ka]; exact kx_s) (by rw [kv_]; exact kx_s) (fun i hi => by
      rw [fup_s] at hi
      rw [nU, ett, fup_s, iN 15 h0 (by omega), n1 i hi]
      rcases ht with q | q
      · rw [q]; decide
      · rw [q]; decide) (fun q => by rw [fup_s, iN 14 (a0 + 1) (by omega), i0 14 (a0 + 1) (by omega), ea0, snD_v]) nv nK
  have gR : gf (fun k j q => (k = 13 ∧ j ≤ 3 ∧ q = nm) ∨ (k = 1 ∧ j = 0 ∧ (q = 0 ∨ q = 3)) ∨ (k = 15 ∧ j = 0 ∧ 64 * nm ≤ q)) (fun _ _ _ => False) R (wI S 1 0 3 (nI (nm + 1))) := gf_trans (gf_mono rN_g (fun k j f z => by omega) (fun _ _ _ z => z)) (gf_trans (gf_mono s0 (fun k j f z => by omega) (fun _ _ _ z => z)) (gf_I (Or.inr (Or.inl ⟨rfl, rfl, Or.inr rfl⟩))))
  obtain ⟨S1, eS1⟩ : ∃ S1, S1 = wI S 1 0 3 (nI (nm + 1)) := ⟨_, rfl⟩
  have j13 : ∀ j, mI S1 13 j nm = mI (rN R nm t (nI a) (nI b) (nI c)) 13 j nm := fun j => by
    rw [eS1, wI_j (fun z => absurd z.1 (by decide)), s0.2.2.2.1 13 j nm (by omega)]
  have j15 : ∀ i, i < 64 → mI S1 15 0 (64 * nm + i) = rth t c i := fun i hi => by
    rw [eS1, wI_j (fun z => absurd z.1 (by decide))]; exact s1 i hi
  have j03 : mI S1 1 0 3 = nI (nm + 1) := by rw [eS1, pI_same]
  rw [← eS1] at gR ⊢
  have jI : ∀ k j, ¬ (k = 13 ∧ j ≤ 3) → ¬ (k = 1 ∧ j = 0) → ¬ (k = 15 ∧ j = 0) → mI S1 k j = mI R k j := fun k j z1 z2 z3 => funext (fun q => gR.2.2.2.1 k j q (by omega))
  have j1 : ∀ f, ¬ f = 0 → ¬ f = 3 → mI S1 1 0 f = mI R 1 0 f := fun f z1 z2 => gR.2.2.2.1 1 0 f (by omega)
  have jL : ∀ k j, mL S1 k j = mL R k j := fun k j => funext (fun q => gR.2.2.2.2 k j q (fun z => z))
  obtain ⟨r1, r2, r3, ⟨r4, r5⟩, r6, r7⟩ := hr
  have hps : ps_M S1 := gf_ps gR r1
  obtain ⟨⟨bB, bD, ⟨bz1, bz⟩, b1'⟩, bt, ⟨br1, br2, br3, br4⟩, bw1, bw2⟩ := hb
  have vz0 : ∀ q, 4096 * nm ≤ q → mI S1 14 2 q = 0 := fun q hq => by
    rw [jI 14 2 (by omega) (by omega) (by omega)]
    exact r7 (by rw [← bw1]; exact w13) q hq
  have rx := rRl_x r3 x hn hps (fun j m l1 l2 => gR.2.2.2.1 13 j m (by omega)) (fun j _ => jI 14 j (by omega) (by omega) (by omega)) (fun q hq => gR.2.2.2.1 15 0 q (by omega)) ⟨j1 34 (by decide) (by decide), j1 38 (by decide) (by decide)⟩ ⟨jL 16 4, jL 1 0⟩ (by
    rw [ka, kv_, ett, fup_s, j13, j13, j13, j13, rN_0, rN_1, rN_2, rN_3]
    refine ⟨rfl, rfl, rfl, ?_, ha4, ha.2, hb1.2, hc1.2⟩
    rcases ht with q | q
    · rw [q, ic_f (by decide)]
    · rw [q, ic_t rfl]) (fun i hi => by
      rw [fup_s] at hi
      rw [nU, ett, j15 i (by omega)]
      unfold rth
      rcases ht with q | q
      · rw [q, if_pos rfl, if_neg (by omega)]; decide
      · rw [q, if_neg (by decide)]; decide) vz0 nv nK
  obtain ⟨_, _, c3, _, _, ⟨c13, c14⟩, ⟨c15, c16, c17, c18, c19, c20⟩, c21⟩ := hc
  refine ⟨nm + 1, g, tn, jt, _, _, _, _, _, _, _, _, ⟨a1, cw, ⟨fun m hm => ?_, fun m l hm hl => ?_, fun m l hm hl ne => ?_⟩, hC, a3, ⟨e03, by rw [e00 1 (by decide)]; exact c14⟩, ⟨c15, by rw [nZ, snD_Z (by omega) (by omega)]; exact c16, c17, by rw [N14]; omega, c19, fun m hm => ?_⟩, fun m hm => ?_⟩, ⟨hps, ?_, rx, ⟨j03, ?_⟩, fun m hm i l1 l2 => ?_, fun _ q hq => vz0 q (by omega)⟩, ⟨⟨?_, uD_x bD x nU, ⟨by omega, fun m hm => ?_⟩, fun m hm => ?_⟩, fun q hq => ?_, ⟨?_, ?_, ?_, ?_⟩, ?_, ?_⟩, ?_⟩
  · rcases lt_s1 hm with l | l
    · obtain ⟨x1, x2, x3, x4, x5, x6, x7, x8, x9, x10⟩ := x.1 m l
      rw [x5, x6, x7]; exact c3.1 m l
    · rw [l, fup_s, fup_s, fup_s]; omega
  · rcases lt_s1 hm with l1 | l1
    · obtain ⟨x1, x2, x3, x4, x5, x6, x7, x8, x9, x10⟩ := x.1 m l1
      have := c21 m l1
      rw [x5]
      rcases lt_s1 hl with l2 | l2
      · obtain ⟨y1, y2, y3, y4, y5, y6, y7, y8, y9, y10⟩ := x.1 l l2
        rw [y6]; exact c3.2.1 m l l1 l2
      · rw [l2, fup_s]; omega
    · rw [l1, fup_s]
      rcases lt_s1 hl with l2 | l2
      · obtain ⟨y1, y2, y3, y4, y5, y6, y7, y8, y9, y10⟩ := x.1 l l2
        have := c21 l l2
        rw [y6]; omega
      · rw [l2, fup_s]; omega
  · rcases lt_s1 hm with l1 | l1
    · obtain ⟨x1, x2, x3, x4, x5, x6, x7, x8, x9, x10⟩ := x.1 m l1
      have := c21 m l1
      rw [x5, x6, x7]
      rcases lt_s1 hl with l2 | l2
      · obtain ⟨y1, y2, y3, y4, y5, y6, y7, y8, y9, y10⟩ := x.1 l l2
        rw [y5, y6, y7]; exact c3.2.2 m l l1 l2 ne
      · rw [l2, fup_s, fup_s, fup_s]; omega
    · rcases lt_s1 hl with l2 | l2
      · obtain ⟨y1, y2, y3, y4, y5, y6, y7, y8, y9, y10⟩ := x.1 l l2
        have := c21 l l2
        rw [y5, y6, y7, l1, fup_s, fup_s, fup_s]; omega
      · omega
  · rcases lt_s1 hm with l | l
    · obtain ⟨x1, x2, x3, x4, x5, x6, x7, x8, x9, x10⟩ := x.1 m l
      rw [x5, x6]; exact c20 m l
    · rw [l, fup_s, fup_s]; omega
  · rw [N14, N15]
    rcases lt_s1 hm with l | l
    · obtain ⟨x1, x2, x3, x4, x5, x6, x7, x8, x9, x10⟩ := x.1 m l
      have := c21 m l
      rw [x5, x6, x7]; omega
    · rw [l, fup_s, fup_s, fup_s]; omega
  · unfold kv; rw [jI 14 8 (by omega) (by omega) (by omega)]; exact r2
  · rw [j1 2 (by decide) (by decide)]; exact r5
  · rcases lt_s1 hm with l | l
    · obtain ⟨x1, x2, x3, x4, x5, x6, x7, x8, x9, x10⟩ := x.1 m l
      rw [x4] at l1
      rw [gR.2.2.2.1 15 0 _ (by omega)]
      exact r6 m l i l1 l2
    · rw [l, fup_s] at l1
      rw [l, j15 i l2]
      unfold rth
      rw [if_pos l1]
      split <;> rfl
  · refine ⟨bB.1, bB.2.1, fun m i q => ?_⟩
    by_cases l : m = nm
    · rw [l, nv]; rfl
    · rw [show uV (w_x W nm t) m = uV W m from fup_o l]; exact bB.2.2 m i q
  · rcases lt_s1 hm with l | l
    · obtain ⟨x1, x2, x3, x4, x5, x6, x7, x8, x9, x10⟩ := x.1 m l
      rw [x2, x3, x4]; exact bz m l
    · rw [l, kx_s, kx_s, fup_s, nI_int (by omega), nI_int (by omega)]; omega
  · rcases lt_s1 hm with l | l
    · obtain ⟨x1, x2, x3, x4, x5, x6, x7, x8, x9, x10⟩ := x.1 m l
      rw [x2, x3]; exact b1' m l
    · rw [l, kx_s, kx_s, nI_int (by omega), nI_int (by omega)]; omega
  · rw [eI 14 jt (by omega) (by omega) (by omega) (by omega), jI 14 0 (by omega) (by omega) (by omega)]; exact bt q hq
  · rw [eI 5 0 (by omega) (by omega) (by omega) (by omega), j1 40 (by decide) (by decide)]; exact br1
  · rw [eI 5 0 (by omega) (by omega) (by omega) (by omega), j1 41 (by decide) (by decide)]; exact br2
  · rw [eI 5 0 (by omega) (by omega) (by omega) (by omega), j1 42 (by decide) (by decide)]; exact br3
  · rw [eI 5 0 (by omega) (by omega) (by omega) (by omega), j1 74 (by decide) (by decide)]; exact br4
  · rw [e00 13 (by decide), j1 4 (by decide) (by decide)]; exact bw1
  · rw [e00 13 (by decide)]; exact bw2
  · have hp2 : pI_ nm kb vb N S1 := pI_r (pI_c hp (fun q l1 l2 => e00 q (by omega)) (fun k j hk => eI k j (by omega) (by omega) (by omega) (by omega)) (fun j hj => eI 15 j (by omega) (by omega) (by omega) (by omega)) (fun j => eL 16 j (by decide) (by decide) (by decide))) (fun q hq => j1 q (by omega) (by omega)) (fun j hj => jI 13 j (by omega) (by omega) (by omega)) (fun j hj => jI 15 j (by omega) (by omega) (by omega)) (fun j _ => jL 16 j)
    rcases hp2 with z | ⟨p, n, B, gg, z1, z2, z3, z4⟩
    · exact Or.inl z
    · exact Or.inr ⟨p, n, B, gg, z1, z2, z3, fun z => absurd (z4 z).2 (by rw [e00 13 (by decide), w13]; decide)⟩
def mapJ (x1 x2 x3 x4 : Int32) (M R : me_M) : Prop := (∃ M1 R2 rb, 0 < mZ M1 16 5 ∧ f_Law_map M 0 x1 x2 x3 x4 5 = some (M1, 0) ∧ f_M_map R 0 x1 x2 x3 x4 = some (R2, rb) ∧ f_M_thrown R2 0 = some (R2, 0) ∧ mL M1 16 5 0 = rb.toInt64 ∧ Iv M1 R2) ∨ (∃ M1 R2 rb, fT1_G_map M 0 x1 x2 x3 x4 = some M1 ∧ f_M_map R 0 x1 x2 x3 x4 = some (R2, rb) ∧ f_M_thrown R2 0 = some (R2, 1) ∧ Iv M1 R2) ∨ (∃ M1 R2 rb, fT2_G_map M 0 x1 x2 x3 x4 = some M1 ∧ f_M_map R 0 x1 x2 x3 x4 = some (R2, rb) ∧ f_M_thrown R2 0 = some (R2, 2) ∧ Iv M1 R2)
variable {x1 x2 x3 x4 : Int32}
theorem map_thr {x : Int32} (hx : 0 < x) : f_M_map_b96 0 x1 x2 x3 x4 R x 0 = some (wI R 1 0 0 x, 0) ∧ f_M_thrown (wI R 1 0 0 x) 0 = some (wI R 1 0 0 x, x) := by
  refine ⟨?_, by unfold f_M_thrown; rw [pI_same]⟩
  unfold f_M_map_b96
  rw [st_eq, pI_same, if_neg (fun z => by rw [i32_le] at z; rw [i32_lt] at hx; omega)]
theorem map_bad (h : Iv M R) (e1 : fT1_G_map M 0 x1 x2 x3 x4 = some M) (e2 : f_M_map R 0 x1 x2 x3 x4 = f_M_map_b63 0 x1 x2 x3 x4 R) : mapJ x1 x2 x3 x4 M R := by
  obtain ⟨t1, t2⟩ := map_thr (x1 := x1) (x2 := x2) (x3 := x3) (x4 := x4) (R := R) (x := 1) (by decide)
  refine Or.inr (Or.inl ⟨M, wI R 1 0 0 1, 0, e1, ?_, t2, Iv_thr h⟩)
  rw [e2]
  unfold f_M_map_b63 f_M_map_b64
  rw [if_pos rfl]
  exact t1
theorem map_go (h : Iv M R) (e0 : f_G_map M 0 x1 x2 x3 x4 = f_G_map_b38 0 x1 x2 x3 x4 M 1) (e1 : fT1_G_map M 0 x1 x2 x3 x4 = fT1_G_map_b38 0 x1 x2 x3 x4 M 1) (e2 : fT2_G_map M 0 x1 x2 x3 x4 = fT2_G_map_b38 0 x1 x2 x3 x4 M 1) (er : f_M_map R 0 x1 x2 x3 x4 = f_M_map_b34 0 x1 x2 x3 x4 R) (ht : x1 = 0 ∨ x1 = 1) (ha : 1 ≤ a ∧ a ≤ 16) (ea : x2 = nI a) (ha4 : ¬ x1 = 1 → a = 4) : mapJ x1 x2 x3 x4 M R := by
  have i3 : f_M_in x3.toInt64 1 64 = some (b1 (¬ x3 < 1 ∧ ¬ 64 < x3)) := in_i (v := x3) (a := 1) (b := 64)
  have i4 : f_M_in x4.toInt64 1 64 = some (b1 (¬ x4 < 1 ∧ ¬ 64 < x4)) := in_i (v := x4) (a := 1) (b := 64)
  by_cases g3 : ¬ x3 < 1 ∧ ¬ 64 < x3
  · by_cases g4 : ¬ x4 < 1 ∧ ¬ 64 < x4
    · have g5 : x4 ≤ 64 := by have := g4.2; rw [i32_lt] at this; rw [i32_le]; omega
      have er2 : f_M_map R 0 x1 x2 x3 x4 = f_M_map_b64 0 x1 x2 x3 x4 R 1 := by
        rw [er]
        unfold f_M_map_b34
        rw [i3, b1_t g3, bd_some, if_neg (by decide), i4, b1_t g4, bd_some, if_neg (by decide)]
      have hI := h
      obtain ⟨nm, g, tn, jt, tb, kb, vb, en, jk, jv, jh, W, hc, hr, hb, hp⟩ := h
      have n4 : nm ≤ 4 := hb.1.2.2.1.1
      have q3 : mI R 1 0 3 = nI nm := hr.2.2.2.1.1
      have p3 : mI M 0 0 3 = nI nm := hc.2.2.2.2.2.1.1
      have q4 : mI M 0 0 13 = mI R 1 0 4 := hb.2.2.2.1
      obtain ⟨t1, t2⟩ := map_thr (x1 := x1) (x2 := x2) (x3 := x3) (x4 := x4) (R := R) (x := 2) (by decide)
      by_cases c4 : nm = 4
      · refine Or.inr (Or.inr ⟨M, wI R 1 0 0 2, 0, ?_, ?_, t2, Iv_thr hI⟩)
        · rw [e2]
          unfold fT2_G_map_b38
          rw [if_neg (by decide), if_neg g3.1, if_neg g3.2, if_neg g4.1, if_pos g5, p3, c4, if_pos (by decide)]
        · rw [er2]
          unfold f_M_map_b64 f_M_map_b91
          rw [if_neg (by decide), q3, c4, if_pos (by decide)]
          exact t1
      · have nl : ¬ (4 : Int32) ≤ nI nm := fun z => by
          have := (nI_lei (a := 4) (by omega) (by omega)).mp z
          omega
        have nl2 : ¬ nI nm = 4 := fun z => c4 (nI_inj (b := 4) (by omega) (by omega) z)
        by_cases c5 : mI M 0 0 13 = 0
        · refine Or.inl ?_
          obtain ⟨b, lb, eb⟩ := of_rng (x := x3) (n := 65) (fun z => g3.1 (by rw [i32_lt] at z ⊢; exact Int.lt_of_lt_of_le z (by decide))) (fun z => g3.2 (by have z2 : (65 : Int32) ≤ x3 := z; rw [i32_le] at z2; rw [i32_lt]; exact Int.lt_of_lt_of_le (by decide) z2)) (by decide)
          obtain ⟨c, lc, ec⟩ := of_rng (x := x4) (n := 65) (fun z => g4.1 (by rw [i32_lt] at z ⊢; exact Int.lt_of_lt_of_le z (by decide))) (fun z => g4.2 (by have z2 : (65 : Int32) ≤ x4 := z; rw [i32_le] at z2; rw [i32_lt]; exact Int.lt_of_lt_of_le (by decide) z2)) (by decide)
          have b0 : 1 ≤ b := by
            have := g3.1
            rw [eb] at this
            exact Nat.le_of_not_lt (fun z => this ((nI_lti (b := 1) (by omega) (by omega)).mpr z))
          have c0 : 1 ≤ c := by
            have := g4.1
            rw [ec] at this
            exact Nat.le_of_not_lt (fun z => this ((nI_lti (b := 1) (by omega) (by omega)).mpr z))
          have ft := fit_ hc n4
          have n12 : mN M 12 = nm := hc.2.2.2.1.2.1
          obtain ⟨f12, N0, v1, v2, v3⟩ := c_store (M := M) (nm := nm) (t := x1) (a := a) (b := b) (c := c) ft.1 ft.2 ht ha.2 (by omega) (by omega) rfl
          obtain ⟨S, s1, s2, s3⟩ := rmap0 (t := x1) (x2 := nI a) (x3 := nI b) (e := c) hr.1 q3 (by omega) (by omega)
          have iv := Iv_map hc hr hb hp (by omega) c5 ht ha ha4 ⟨b0, by omega⟩ ⟨c0, by omega⟩ v2 v3 rfl s2 s3
          have z16 : mZ N0 16 5 = 1 := by rw [v2.2.2.1, snD_Z (by omega) (by omega)]; exact hc.2.2.2.2.1.2.2
          have z19 : mZ N0 19 0 = 4 := by rw [v2.2.2.1, snD_Z (by omega) (by omega)]; exact hc.2.1.1.1.2.2.1.2.1
          have k3 : mI (wR N0 19 0 nm (some nm)) 0 0 3 = nI nm := by
            rw [pI_R, v2.2.2.2.1 0 0 3 (by omega), snD_I n12 (by omega) (by omega) (by omega)]; exact p3
          have em : ∀ q, q < 4 → nI (q + 1) - 1 = nI q := by decide
          have s00 : mI (wI S 1 0 3 (nI (nm + 1))) 1 0 0 = 0 := by
            rw [pI_place (by decide), s2.2.2.2.1 1 0 0 (by omega)]
            unfold rN
            rw [wI_j (fun z => absurd z.1 (by decide)), wI_j (fun z => absurd z.1 (by decide)), wI_j (fun z => absurd z.1 (by decide)), wI_j (fun z => absurd z.1 (by decide)), pI_same]
          refine ⟨wL (wI (wR N0 19 0 nm (some nm)) 0 0 3 (nI (nm + 1))) 16 5 0 (nI nm).toInt64, wI S 1 0 3 (nI (nm + 1)), nI nm, by show 0 < mZ N0 16 5; rw [z16]; decide, ?_, ?_, by unfold f_M_thrown; rw [s00], pL_same, Iv_out iv⟩
          · have z16' : mZ (wI (wR N0 19 0 nm (some nm)) 0 0 3 (nI (nm + 1))) 16 5 = 1 := z16
            unfold f_Law_map
            rw [e0]
            unfold f_G_map_b38
            rw [if_neg (by decide), if_neg g3.1, if_neg g3.2, if_neg g4.1, if_pos g5, p3, if_neg nl, if_pos c5, hc.2.2.2.2.1.1.2.1, bd_some, gd_pos f12, st_eq, n12, ea, eb, ec, v1, bd_some, z19, nI_tn (by omega), gd_pos (ix_t (by omega) (by decide)), st_eq, k3, nI_s, st_eq, pI_same, em nm (by omega), b2_some, z16', gd_pos (by decide), st_eq]
          · rw [er2]
            unfold f_M_map_b64
            rw [if_neg (by decide), q3, if_neg nl2, ← q4, if_pos c5, ea, eb, ec]
            exact s1
        · refine Or.inr (Or.inr ⟨M, wI R 1 0 0 2, 0, ?_, ?_, t2, Iv_thr hI⟩)
          · rw [e2]
            unfold fT2_G_map_b38
            rw [if_neg (by decide), if_neg g3.1, if_neg g3.2, if_neg g4.1, if_pos g5, p3, if_neg nl, if_neg c5]
          · rw [er2]
            unfold f_M_map_b64 f_M_map_b91
            rw [if_neg (by decide), q3, if_neg nl2, ← q4, if_neg c5]
            exact t1
    · refine map_bad h ?_ ?_
      · rw [e1]
        unfold fT1_G_map_b38
        rw [if_neg (by decide), if_neg g3.1, if_neg g3.2]
        by_cases q : x4 < 1
        · rw [if_pos q]
        · rw [if_neg q, if_neg (fun z => g4 ⟨q, fun y => by rw [i32_le] at z; rw [i32_lt] at y; omega⟩)]
      · rw [er]
        unfold f_M_map_b34
        rw [i3, b1_t g3, bd_some, if_neg (by decide), i4, b1_f g4, bd_some, if_pos rfl]
  · refine map_bad h ?_ ?_
    · rw [e1]
      unfold fT1_G_map_b38
      rw [if_neg (by decide)]
      by_cases q : x3 < 1
      · rw [if_pos q]
      · rw [if_neg q, if_pos (Classical.byContradiction (fun z => g3 ⟨q, z⟩))]
    · rw [er]
      unfold f_M_map_b34
      rw [i3, b1_f g3, bd_some, if_pos rfl]
theorem J_map (h : Iv M R) : mapJ x1 x2 x3 x4 M R := by
  have i1 : f_M_in x1.toInt64 0 1 = some (b1 (¬ x1 < 0 ∧ ¬ 1 < x1)) := in_i (v := x1) (a := 0) (b := 1)
  have i2 : f_M_in x2.toInt64 1 16 = some (b1 (¬ x2 < 1 ∧ ¬ 16 < x2)) := in_i (v := x2) (a := 1) (b := 16)
  by_cases c0 : x1 = 0
  · have o1 : ¬ x1 < 0 ∧ ¬ 1 < x1 := by rw [c0]; decide
    by_cases c1 : x2 = 4
    · refine map_go (a := 4) h ?_ ?_ ?_ ?_ (Or.inl c0) (by omega) c1 (fun _ => rfl)
      · unfold f_G_map; rw [if_pos c0, if_pos c1]
      · unfold fT1_G_map; rw [if_pos c0, if_pos c1]
      · unfold fT2_G_map; rw [if_pos c0, if_pos c1]
      · unfold f_M_map; rw [i1, b1_t o1, bd_some, if_neg (by decide), if_pos c0, if_pos c1]
    · refine map_bad h ?_ ?_
      · unfold fT1_G_map fT1_G_map_b38; rw [if_pos c0, if_neg c1, if_pos rfl]
      · unfold f_M_map; rw [i1, b1_t o1, bd_some, if_neg (by decide), if_pos c0, if_neg c1]
  · by_cases c1 : x1 = 1
    · have o1 : ¬ x1 < 0 ∧ ¬ 1 < x1 := by rw [c1]; decide
      by_cases c2 : ¬ x2 < 1 ∧ ¬ 16 < x2
      · obtain ⟨a, la, ea⟩ := of_rng (x := x2) (n := 17) (fun z => c2.1 (by rw [i32_lt] at z ⊢; exact Int.lt_of_lt_of_le z (by decide))) (fun z => c2.2 (by have z2 : (17 : Int32) ≤ x2 := z; rw [i32_le] at z2; rw [i32_lt]; exact Int.lt_of_lt_of_le (by decide) z2)) (by decide)
        have a0 : 1 ≤ a := by
          have := c2.1
          rw [ea] at this
          exact Nat.le_of_not_lt (fun z => this ((nI_lti (b := 1) (by omega) (by omega)).mpr z))
        refine map_go (a := a) h ?_ ?_ ?_ ?_ (Or.inr c1) ⟨a0, by omega⟩ ea (fun z => absurd c1 z)
        · unfold f_G_map; rw [if_neg c0, if_pos c1, if_neg c2.1, if_neg c2.2]
        · unfold fT1_G_map; rw [if_neg c0, if_pos c1, if_neg c2.1, if_neg c2.2]
        · unfold fT2_G_map; rw [if_neg c0, if_pos c1, if_neg c2.1, if_neg c2.2]
        · unfold f_M_map; rw [i1, b1_t o1, bd_some, if_neg (by decide), if_neg c0, i2, b1_t c2, bd_some, if_neg (by decide)]
      · refine map_bad h ?_ ?_
        · unfold fT1_G_map fT1_G_map_b37 fT1_G_map_b38
          rw [if_neg c0, if_pos c1]
          by_cases q : x2 < 1
          · rw [if_pos q, if_pos rfl]
          · rw [if_neg q, if_pos (show 16 < x2 from Classical.byContradiction (fun z => c2 ⟨q, z⟩)), if_pos rfl]
        · unfold f_M_map; rw [i1, b1_t o1, bd_some, if_neg (by decide), if_neg c0, i2, b1_f c2, bd_some, if_pos rfl]
    · have o1 : ¬ (¬ x1 < 0 ∧ ¬ 1 < x1) := fun z => by
        have z1 := z.1
        have z2 := z.2
        rw [i32_lt] at z1 z2
        have y0 : ¬ x1.toInt = 0 := fun y => c0 (Int32.toInt_inj.mp y)
        have y1 : ¬ x1.toInt = 1 := fun y => c1 (Int32.toInt_inj.mp y)
        have w0 : (0 : Int32).toInt = 0 := rfl
        have w1 : (1 : Int32).toInt = 1 := rfl
        omega
      refine map_bad h ?_ ?_
      · unfold fT1_G_map fT1_G_map_b37 fT1_G_map_b38
        rw [if_neg c0, if_neg c1, if_pos rfl]
      · unfold f_M_map; rw [i1, b1_f o1, bd_some, if_pos rfl]
end JMA
