/-! PURE: one more map. -/
section JEX
variable {nm : Nat} {tb tb2 : Nat → Prop} {kb vb kb2 vb2 : Int32 → Int32} {en jk jv jh en2 jk2 jv2 jh2 : Nat → Nat} {W W2 : tyU} {M N R S : me_M}
def ex_ (nm : Nat) (tb tb2 : Nat → Prop) (kb vb kb2 vb2 : Int32 → Int32) (en jk jv jh en2 jk2 jv2 jh2 : Nat → Nat) (W W2 : tyU) : Prop := (∀ m, m < nm → tb2 m = tb m ∧ kb2 (nI m) = kb (nI m) ∧ vb2 (nI m) = vb (nI m) ∧ en2 m = en m ∧ jk2 m = jk m ∧ jv2 m = jv m ∧ jh2 m = jh m ∧ uH W2 m = uH W m ∧ uK W2 m = uK W m ∧ uV W2 m = uV W m) ∧ (uP W2 = uP W ∧ uZ W2 = uZ W ∧ uC W2 = uC W ∧ uT W2 = uT W ∧ uN W2 = uN W ∧ uL W2 = uL W)
theorem lt_s1 {m : Nat} (h : m < nm + 1) : m < nm ∨ m = nm := by omega
theorem mst_x {H H2 : Nat → Nat → Int32} {K K2 V V2 : Nat → Nat → Nat → Int32} (hm : mst nm tb kb vb en W H K V) (x : ex_ nm tb tb2 kb vb kb2 vb2 en jk jv jh en2 jk2 jv2 jh2 W W2) (h1 : ∀ m, m < nm → ∀ i, i < en m → H2 m i = H m i) (h2 : ∀ m, m < nm → ∀ i, i < en m → ∀ b, b < kn kb m → K2 m i b = K m i b) (h3 : ∀ m, m < nm → ∀ i, i < en m → ∀ b, b < kn vb m → V2 m i b = V m i b) (nH : ∀ i, i < en2 nm → (H2 nm i = 0 ↔ ¬ uH W2 nm i)) (nV : ∀ i, i < en2 nm → ∀ b, b < kn vb2 nm → V2 nm i b = uV W2 nm i b) (nK : tb2 nm → ∀ i, ¬ uH W2 nm i) : mst (nm + 1) tb2 kb2 vb2 en2 W2 H2 K2 V2 := by
  intro m hl
  rcases lt_s1 hl with l | l
  · obtain ⟨x1, x2, x3, x4, x5, x6, x7, x8, x9, x10⟩ := x.1 m l
    rw [x1, x2, x3, x4, x8, x9, x10]
    exact ⟨fun i hi => by rw [h1 m l i hi]; exact (hm m l).1 i hi, fun i hi b hb => (h3 m l i hi b hb).trans ((hm m l).2.1 i hi b hb), fun ht i hi hu b hb => (h2 m l i hi b hb).trans ((hm m l).2.2 ht i hi hu b hb)⟩
  · rw [l]
    exact ⟨nH, nV, fun ht i _ hu => absurd hu (nK ht i)⟩
theorem mo_x {rc : tyV → Int64} {reg reg2 : Nat → Int64} {stk stk2 pkt : Nat → Int32} {zs nt : Int32} {tel : Nat → Int64} {clk : Int64} (h : mo rc (Tb W) reg stk pkt zs nt tel clk) (x : uP W2 = uP W ∧ uZ W2 = uZ W ∧ uC W2 = uC W ∧ uT W2 = uT W ∧ uN W2 = uN W ∧ uL W2 = uL W) : mo rc (Tb W2) reg2 stk2 pkt zs nt tel clk := by
  obtain ⟨v1, v2, v3, v4, v5, v6⟩ := x
  obtain ⟨w2, w3, w4, w5, w6, w7⟩ := h
  have mm : mo rc (Tb W2) reg stk pkt zs nt tel clk := ⟨w2, w3, fun a ha => (w4 a ha).trans (show uP W a = uP W2 a by rw [v1]), ⟨w5.1.trans (show nI (uZ W) = nI (uZ W2) by rw [v2]), show uZ W2 ≤ 2000 by rw [v2]; exact w5.2⟩, ⟨w6.1.trans (show nI (uN W) = nI (uN W2) by rw [v5]), show uN W2 ≤ 1000 by rw [v5]; exact w6.2.1, show ∀ i, i < uN W2 → tel i = uL W2 i by rw [v5, v6]; exact w6.2.2⟩, w7.trans (show uT W = uT W2 by rw [v4])⟩
  exact mo_Tb (T := Tb W2) mm
theorem cWr_x (hw : cWr nm tb kb vb en jk jv jh W N) (x : ex_ nm tb tb2 kb vb kb2 vb2 en jk jv jh en2 jk2 jv2 jh2 W W2) (hn : nm < 4) (n19 : mR N 19 0 nm = some nm) (ns : sS N nm (kn kb2 nm) (kn vb2 nm) (en2 nm) (jk2 nm) (jv2 nm) (jh2 nm) (tb2 nm)) (kk : kb2 (nI nm) = nI (kn kb2 nm)) (kv : vb2 (nI nm) = nI (kn vb2 nm)) (nH : ∀ i, i < en2 nm → (mI N 15 (jh2 nm) i = 0 ↔ ¬ uH W2 nm i)) (nV : ∀ b, mI N 14 (jv2 nm) b = 0) (nv : ∀ i b, uV W2 nm i b = 0) (nK : tb2 nm → ∀ i, ¬ uH W2 nm i) : cWr (nm + 1) tb2 kb2 vb2 en2 jk2 jv2 jh2 W2 N := by
  obtain ⟨⟨⟨r, z, ⟨s1, s2, s3⟩, hv⟩, hs⟩, w2, w3, w4⟩ := hw
  refine ⟨⟨⟨r, z, ⟨by omega, s2, fun m hm => ?_⟩, fun m hm => ?_⟩, fun m hm => ?_⟩, mo_x w2 x.2, ?_, ?_⟩
  · rcases lt_s1 hm with l | l
    · obtain ⟨x1, x2, x3, x4, x5, x6, x7, x8, x9, x10⟩ := x.1 m l
      rw [x2, x3]; exact s3 m l
    · rw [l, kk, kv]
      exact ⟨n19, ns.1.1, ns.1.2.1⟩
  · rcases lt_s1 hm with l | l
    · obtain ⟨x1, x2, x3, x4, x5, x6, x7, x8, x9, x10⟩ := x.1 m l
      rw [x3, x4, x6]; exact hv m l
    · rw [l]
      exact ⟨ns.2.1.2.1, ns.1.2.2, ns.2.2.1.2.1⟩
  · rcases lt_s1 hm with l | l
    · obtain ⟨x1, x2, x3, x4, x5, x6, x7, x8, x9, x10⟩ := x.1 m l
      show sS N m (kb2 (nI m)).toNatClampNeg (vb2 (nI m)).toNatClampNeg (en2 m) (jk2 m) (jv2 m) (jh2 m) (tb2 m)
      rw [x1, x2, x3, x4, x5, x6, x7]; exact hs m l
    · rw [l]; exact ns
  · refine mst_x w3 x (fun m l i hi => ?_) (fun m l i hi b hb => ?_) (fun m l i hi b hb => ?_) nH (fun i _ b _ => by rw [nv]; exact nV _) nK
    · obtain ⟨x1, x2, x3, x4, x5, x6, x7, x8, x9, x10⟩ := x.1 m l
      rw [x7]
    · obtain ⟨x1, x2, x3, x4, x5, x6, x7, x8, x9, x10⟩ := x.1 m l
      show mI N 14 (jk2 m) (i * (kb2 (nI m)).toNatClampNeg + b) = mI N 14 (jk m) (i * (kb (nI m)).toNatClampNeg + b)
      rw [x5, x2]
    · obtain ⟨x1, x2, x3, x4, x5, x6, x7, x8, x9, x10⟩ := x.1 m l
      show mI N 14 (jv2 m) (i * (vb2 (nI m)).toNatClampNeg + b) = mI N 14 (jv m) (i * (vb (nI m)).toNatClampNeg + b)
      rw [x6, x3]
  · rw [x.2.2.2.1]; exact w4
theorem rRl_x (hr : rRl nm tb kb vb en (Tb W) R) (x : ex_ nm tb tb2 kb vb kb2 vb2 en jk jv jh en2 jk2 jv2 jh2 W W2) (hn : nm < 4) (hp : ps_M S) (o13 : ∀ j m, j ≤ 3 → m < nm → mI S 13 j m = mI R 13 j m) (o14 : ∀ j, j = 1 ∨ j = 2 ∨ j = 3 ∨ j = 4 → mI S 14 j = mI R 14 j) (o15 : ∀ q, q < 64 * nm → mI S 15 0 q = mI R 15 0 q) (o1 : mI S 1 0 34 = mI R 1 0 34 ∧ mI S 1 0 38 = mI R 1 0 38) (oL : mL S 16 4 = mL R 16 4 ∧ mL S 1 0 = mL R 1 0) (ns : mI S 13 1 nm = nI (kn kb2 nm) ∧ mI S 13 2 nm = nI (kn vb2 nm) ∧ mI S 13 3 nm = nI (en2 nm) ∧ mI S 13 0 nm = ic (tb2 nm) 1 0 ∧ (¬ tb2 nm → kn kb2 nm = 4) ∧ kn kb2 nm ≤ 16 ∧ kn vb2 nm ≤ 64 ∧ en2 nm ≤ 64) (nH : ∀ i, i < en2 nm → (mI S 15 0 (64 * nm + i) = 0 ↔ ¬ uH W2 nm i)) (nV : ∀ q, 4096 * nm ≤ q → mI S 14 2 q = 0) (nv : ∀ i b, uV W2 nm i b = 0) (nK : tb2 nm → ∀ i, ¬ uH W2 nm i) : rRl (nm + 1) tb2 kb2 vb2 en2 (Tb W2) S := by
  obtain ⟨h1, h2, h3, h4⟩ := hr
  have h64 := h1.2.2.2
  refine ⟨⟨⟨rs_5 hp, rs_6 hp, rs_7 hp, rs_8 hp, rs_9 hp, rs_10 hp, rs_11 hp, rs_16 hp, rs_17 hp, rs_35 hp, rs_36 hp, rs_39 hp, rs_43 hp, rs_44 hp, rs_45 hp, rs_46 hp⟩, ⟨rz_13_0 hp, rz_13_1 hp, rz_13_2 hp, rz_13_3 hp, rz_14_1 hp, rz_14_2 hp, rz_14_3 hp, rz_14_4 hp, rz_14_5 hp, rz_14_6 hp, rz_14_7 hp, rz_15_0 hp, rz_16_1 hp, rz_16_2 hp, rz_16_4 hp, rz_16_5 hp⟩, by omega, fun m hm => ?_⟩, ?_, ?_, ?_⟩
  · rcases lt_s1 hm with l | l
    · obtain ⟨x1, x2, x3, x4, x5, x6, x7, x8, x9, x10⟩ := x.1 m l
      show mI S 13 1 m = nI (kb2 (nI m)).toNatClampNeg ∧ mI S 13 2 m = nI (vb2 (nI m)).toNatClampNeg ∧ mI S 13 3 m = nI (en2 m) ∧ mI S 13 0 m = ic (tb2 m) 1 0 ∧ (¬ tb2 m → (kb2 (nI m)).toNatClampNeg = 4) ∧ (kb2 (nI m)).toNatClampNeg ≤ 16 ∧ (vb2 (nI m)).toNatClampNeg ≤ 64 ∧ en2 m ≤ 64
      rw [x1, x2, x3, x4, o13 0 m (by omega) l, o13 1 m (by omega) l, o13 2 m (by omega) l, o13 3 m (by omega) l]
      exact h64 m l
    · rw [l]; exact ns
  · rw [o14 3 (by omega), o1.1, o1.2, oL.1, oL.2]
    exact mo_x h2 x.2
  · refine mst_x h3 x (fun m l i hi => ?_) (fun m l i hi b hb => ?_) (fun m l i hi b hb => ?_) nH (fun i _ b _ => ?_) nK
    · have := (h64 m l).2.2.2.2.2.2.2
      exact o15 _ (by omega)
    · rw [o14 1 (by omega)]
    · rw [o14 2 (by omega)]
    · show mI S 14 2 (64 * (64 * nm + i) + b) = uV W2 nm i b
      rw [nv]
      exact nV _ (by omega)
  · intro a a1 a2
    rw [o14 4 (by omega)]
    show mI R 14 4 a = uC W2 a
    rw [x.2.2.2.1]
    exact h4 a a1 a2
theorem uD_x (hD : uD nm tb kb en W) (x : ex_ nm tb tb2 kb vb kb2 vb2 en jk jv jh en2 jk2 jv2 jh2 W W2) (nU : ∀ i, uH W2 nm i ↔ ¬ tb2 nm) : uD (nm + 1) tb2 kb2 en2 W2 := by
  intro m hm
  rcases lt_s1 hm with l | l
  · obtain ⟨x1, x2, x3, x4, x5, x6, x7, x8, x9, x10⟩ := x.1 m l
    rw [x1, x2, x4, x8, x9]; exact hD m l
  · rw [l]
    exact ⟨fun t i _ => (nU i).mpr t, fun t i j _ _ h => absurd t ((nU i).mp h)⟩
end JEX
