/-! PURE: packet, context, put. -/
section JPK
variable {nm : Nat} {tb : Nat → Prop} {kb vb : Int32 → Int32} {en jk jv jh : Nat → Nat} {W : tyU} {M N R : me_M} {i n m : Nat} {x y : Int32} {v : Int64}
/-- update, the maps alone -/
theorem kupd0 (hS : cSh nm tb kb vb en jk jv jh M) (hst : mst nm tb kb vb en W (fun m => mI M 15 (jh m)) (fun m i b => mI M 14 (jk m) (i * kn kb m + b)) (fun m i b => mI M 14 (jv m) (i * kn vb m + b))) (hd : jDis nm jk jv jh) (hn : m < nm) {j1 j3 A B : Nat} {key val : Nat → Int32} (hA : A + kn kb m ≤ mZ M 14 j1) (hZ : mZ M 14 j1 ≤ 100000) (hB : B + kn vb m ≤ mZ M 14 j3) (hZ3 : mZ M 14 j3 ≤ 100000) (h3 : ¬ j3 = jk m) (hkey : ∀ b, b < kn kb m → key b = mI M 14 j1 (A + b)) (hval : ∀ b, b < kn vb m → val b = mI M 14 j3 (B + b)) : ∃ N, f_Store_update M m j1 (nI A) j3 (nI B) = some (N, (u_upd tb kb vb en W m key val).1) ∧ (mst nm tb kb vb en (u_upd tb kb vb en W m key val).2 (fun m => mI N 15 (jh m)) (fun m i b => mI N 14 (jk m) (i * kn kb m + b)) (fun m i b => mI N 14 (jv m) (i * kn vb m + b))) ∧ sgp nm jk jv jh M N ∧ (∀ j, j ≤ 3 → mI N 14 j = mI M 14 j) ∧ mL N = mL M ∧ mR N = mR M ∧ mI N 5 0 = mI M 5 0 := by
  have hs := hS.2 m hn
  have hs2 := hs
  obtain ⟨_, _, _, _, ⟨b1, b2, b3⟩, _⟩ := hs2
  obtain ⟨d1, d2, d3⟩ := hd.1 m hn
  have hen := centry hs hA hZ hst hn Iff.rfl rfl rfl (fun _ _ => rfl) (fun _ _ _ _ => rfl) hkey
  have hlt : ∀ i, u_find tb kb en W m key = some i → i < en m := fun i hi => find_lt b3 hi
  rw [cupd hs hA hZ hB hZ3 hen hlt]
  have hw := upd_w (tb := tb) (kb := kb) (vb := vb) (en := en) (W := W) (m := m) (key := key) (val := val)
  have kv : ¬ jk m = jv m := hd.2.1 m m hn hn
  unfold u_upd at hw ⊢
  cases e : u_find tb kb en W m key with
  | some i =>
    rw [e] at hw
    have hi := hlt i e
    refine ⟨cu_v M (jv m) (kn vb m) j3 B i, rfl, ?_, sgp_A ⟨rfl, m, hn, Or.inr rfl⟩, fun j hj => wA_o (fun z => by omega), rfl, rfl, wA_o (fun z => absurd z.1 (by decide))⟩
    unfold cu_v
    refine mst_e (mst_val (m := m) (i := i) hst (fun b => if b < kn vb m then val b else uV W m i b)) (fun l _ a _ => ?_) (fun l hl a _ b _ => ?_) (fun l hl a ha b hb => ?_)
    · rw [wA_o (fun z => absurd z.1 (by decide))]
    · rw [wA_o (fun z => hd.2.1 l m hl hn z.2)]
    · unfold fup
      by_cases em : l = m
      · rw [em] at hb ⊢
        rw [if_pos rfl, wA_s, row_c hb]
        by_cases ei : a = i
        · rw [if_pos ei, if_pos ei, if_pos hb, hval b hb]
        · rw [if_neg ei, if_neg ei]
      · rw [if_neg em, wA_o (fun z => (hd.2.2 l m hl hn em).2.1 z.2)]
  | none =>
    rw [e] at hw
    dsimp only at hw ⊢
    have eu : cu_r M (jk m) (jv m) (jh m) (kn kb m) (kn vb m) (en m) j1 j3 A B (tb m) none = ic (tb m) (cu_n M (jk m) (jv m) (jh m) (kn kb m) (kn vb m) j1 j3 A B (x_fst (fun i => mI M 15 (jh m) i = 0) (en m) 0)) (some (M, -1)) := rfl
    rw [eu]
    by_cases ht : tb m
    · rw [ic_t ht, ic_t ht]
      rw [ic_t ht] at hw
      rw [free_c hst hn]
      cases q : x_fst (fun i => ¬ uH W m i) (en m) 0 with
      | none =>
        exact ⟨M, rfl, hst, sgp_refl, fun _ _ => rfl, rfl, rfl, rfl⟩
      | some i =>
        rw [q] at hw
        have hi : i < en m := by have := (fst_some _ _ _ q).2; omega
        obtain ⟨M1, eM1⟩ : ∃ M1, M1 = cu_k M (jk m) (jh m) (kn kb m) j1 A i := ⟨_, rfl⟩
        have s1 : sgp nm jk jv jh M M1 := by
          rw [eM1]
          exact sgp_trans (sgp_H ⟨m, hn, rfl⟩) (sgp_A ⟨rfl, m, hn, Or.inl rfl⟩)
        have m14 : ∀ j, ¬ j = jk m → mI M1 14 j = mI M 14 j := fun j hj => by
          rw [eM1]
          unfold cu_k
          rw [wA_o (fun z => hj z.2), wI_o (fun z => absurd z.1 (by decide))]
        have mk : mI M1 14 (jk m) = va_cpy (mI M 14 j1) (mI M 14 (jk m)) A (i * kn kb m) (kn kb m) := by
          rw [eM1]
          unfold cu_k
          rw [wA_s]
        have mh : mI M1 15 (jh m) = fup (mI M 15 (jh m)) i 1 := by
          rw [eM1]
          unfold cu_k
          rw [wA_o (fun z => absurd z.1 (by decide)), wI_h]
        have m15 : ∀ j, ¬ j = jh m → mI M1 15 j = mI M 15 j := fun j hj => by
          rw [eM1]
          unfold cu_k
          rw [wA_o (fun z => absurd z.1 (by decide)), wI_o (fun z => hj z.2)]
        have m5 : mI M1 5 0 = mI M 5 0 := by
          rw [eM1]
          unfold cu_k
          rw [wA_o (fun z => absurd z.1 (by decide)), wI_o (fun z => absurd z.1 (by decide))]
        have mL1 : mL M1 = mL M := by rw [eM1]; rfl
        have mR1 : mR M1 = mR M := by rw [eM1]; rfl
        refine ⟨cu_v M1 (jv m) (kn vb m) j3 B i, by rw [eM1]; rfl, ?_, sgp_trans s1 (sgp_A ⟨rfl, m, hn, Or.inr rfl⟩), fun j hj => by unfold cu_v; rw [wA_o (fun z => by omega), m14 j (by omega)], mL1, mR1, by unfold cu_v; rw [wA_o (fun z => absurd z.1 (by decide)), m5]⟩
        unfold cu_v
        have hnew := mst_new (m := m) (i := i) (key := key) hst (kn kb m) rfl (x := 1) (by decide) (k2 := key) (fun _ _ => rfl)
        refine mst_e (mst_val (m := m) (i := i) hnew (fun b => if b < kn vb m then val b else uV W m i b)) (fun l hl a _ => ?_) (fun l hl a _ b hb => ?_) (fun l hl a ha b hb => ?_)
        · rw [wA_o (fun z => absurd z.1 (by decide))]
          unfold fup
          by_cases em : l = m
          · rw [if_pos em, em, mh]
            rfl
          · rw [if_neg em, m15 _ (hd.2.2 l m hl hn em).2.2]
        · rw [wA_o (fun z => hd.2.1 l m hl hn z.2)]
          unfold fup
          by_cases em : l = m
          · rw [em] at hb ⊢
            rw [if_pos rfl, mk, row_c hb]
            by_cases ei : a = i
            · rw [if_pos ei, if_pos ei, hkey b hb]
            · rw [if_neg ei, if_neg ei]
          · rw [if_neg em, m14 _ (hd.2.2 l m hl hn em).1]
        · unfold fup
          by_cases em : l = m
          · rw [em] at hb ⊢
            rw [if_pos rfl, wA_s, row_c hb, m14 j3 h3, m14 (jv m) (fun z => kv z.symm)]
            by_cases ei : a = i
            · rw [if_pos ei, if_pos ei, if_pos hb, hval b hb]
            · rw [if_neg ei, if_neg ei]
          · rw [if_neg em, wA_o (fun z => (hd.2.2 l m hl hn em).2.1 z.2), m14 _ (fun z => hd.2.1 m l hn hl z.symm)]
    · rw [ic_f ht, ic_f ht]
      exact ⟨M, rfl, hst, sgp_refl, fun _ _ => rfl, rfl, rfl, rfl⟩
end JPK
