/-! PURE: the beginning. -/
def W_0 : tyU := (fun _ => 0, 0, fun _ => 0, 0, 0, fun _ => 0, fun _ _ => False, fun _ _ _ => 0, fun _ _ _ => 0)
def ZZ_ : me_M := nA Z_ 16 1
section JFI
variable {M N : me_M}
theorem mo_0 {rc : tyV → Int64} {reg : Nat → Int64} {stk : Nat → Int32} : mo rc (Tb W_0) reg stk (fun _ => 0) 0 0 (fun _ => 0) 0 := by
  have h : mo rc (Tb W_0) reg stk (fun _ => 0) 0 0 (fun _ => 0) 0 := ⟨fun i _ z => absurd (show (0 : Int32) = 0 from rfl) z, fun a _ => ⟨fun z => absurd (show (0 : Int32) = 0 from rfl) z, fun _ z => by
    have e : ib 0 (a % 8) = false := by
      have t : ∀ b, b < 8 → ib 0 b = false := by decide
      exact t _ (by omega)
    exact absurd z (by show ¬ ib 0 (a % 8) = true; rw [e]; decide)⟩, fun a _ => rfl, ⟨rfl, by decide⟩, ⟨rfl, by decide, fun i hi => absurd hi (Nat.not_lt_zero i)⟩, rfl⟩
  exact h
theorem ZZ_3 (x : Nat) : mI ZZ_ 14 3 x = 0 := rfl
theorem ZZ_1 (x : Nat) : mI ZZ_ 14 1 x = 0 := rfl
theorem ZZ_4 (x : Nat) : mL ZZ_ 16 4 x = 0 := rfl
theorem Iv_first (hs : ss M) (hc : cnt M) (h9 : mN M 9 = 2) (hu : ∀ s, s < 2 → ∃ u, us M s u) (ha : ag M Z_) : Iv (nA M 16 1) RG_ := by
  obtain ⟨N, eN⟩ : ∃ N, N = nA M 16 1 := ⟨_, rfl⟩
  have aa : ag N ZZ_ := by rw [eN]; exact ag_nA (by decide) ha
  have bb : bg M N := by rw [eN]; exact bg_nA (by decide)
  rw [← eN]
  have n : ∀ k, ¬ kS k → mN N k = mN ZZ_ k := fun k hk => (aa k hk).1
  have i : ∀ k, ¬ kS k → mI N k = mI ZZ_ k := fun k hk => (aa k hk).2.1
  have l : ∀ k, ¬ kS k → mL N k = mL ZZ_ k := fun k hk => (aa k hk).2.2.1
  have r : ∀ k, ¬ kS k → mR N k = mR ZZ_ k := fun k hk => (aa k hk).2.2.2.1
  have z : ∀ k, ¬ kS k → mZ N k = mZ ZZ_ k := fun k hk => (aa k hk).2.2.2.2
  have n9 : mN N 9 = 2 := (bb 9 (by decide)).1.trans h9
  have hcn : cnt N := cnt_b bb hc
  have hC : cCt 0 0 N := by
    unfold cCt
    rw [n 0 (by decide), n 1 (by decide), n 2 (by decide), n 3 (by decide), n 4 (by decide), n 5 (by decide), n 6 (by decide), n 7 (by decide), n 8 (by decide), n 12 (by decide), n 13 (by decide), n 14 (by decide), n 15 (by decide), n 16 (by decide), n 17 (by decide), n 19 (by decide)]
    decide +kernel
  have rm := room_of hC (by decide) (by decide) hcn (by rw [n9]; decide)
  refine ⟨0, 0, 0, 0, fun _ => False, fun _ => 0, fun _ => 0, fun _ => 0, fun _ => 0, fun _ => 0, fun _ => 0, W_0, ⟨⟨?_, ?_, ?_, ?_, ?_, ss_b bb hs, hcn, ?_, ?_, ?_, ?_, ?_⟩, ⟨⟨⟨?_, ?_, ⟨by decide, ?_, fun m hm => absurd hm (Nat.not_lt_zero m)⟩, fun m hm => absurd hm (Nat.not_lt_zero m)⟩, fun m hm => absurd hm (Nat.not_lt_zero m)⟩, ?_, fun m hm => absurd hm (Nat.not_lt_zero m), ?_⟩, ⟨fun m hm => absurd hm (Nat.not_lt_zero m), fun m l hm => absurd hm (Nat.not_lt_zero m), fun m l hm => absurd hm (Nat.not_lt_zero m)⟩, hC, ⟨?_, ?_, ?_⟩, ?_, ⟨by decide, ?_, by decide, ?_, Or.inl rfl, fun m hm => absurd hm (Nat.not_lt_zero m)⟩, fun m hm => absurd hm (Nat.not_lt_zero m)⟩, ⟨RG_ps, fun x => ⟨0, by decide, RG_I 14 8 x⟩, ⟨⟨?_, ?_, by decide, fun m hm => absurd hm (Nat.not_lt_zero m)⟩, ?_, fun m hm => absurd hm (Nat.not_lt_zero m), fun a _ _ => RG_I 14 4 a⟩, ⟨RG_I 1 0 3, RG_I 1 0 2⟩, fun m hm => absurd hm (Nat.not_lt_zero m), fun _ x _ => RG_I 14 2 x⟩, ⟨⟨⟨fun a => rfl, fun a => rfl, fun m i b => rfl⟩, fun m hm => absurd hm (Nat.not_lt_zero m), ⟨by decide, fun m hm => absurd hm (Nat.not_lt_zero m)⟩, fun m hm => absurd hm (Nat.not_lt_zero m)⟩, fun b hb => absurd hb (Nat.not_lt_zero b), ⟨?_, ?_, ?_, ?_⟩, ?_, ?_⟩, Or.inl ⟨?_, RG_I 1 0 18, ?_, RG_I 1 0 19, ?_⟩⟩
  · unfold cWs; rw [r 0 (by decide)]; decide +kernel
  · unfold cWc; rw [r 2 (by decide), z 16 (by decide), z 15 (by decide)]; decide +kernel
  · unfold cWf; rw [r 3 (by decide), z 13 (by decide), z 15 (by decide), z 16 (by decide)]; decide +kernel
  · unfold cWg; rw [r 3 (by decide), z 13 (by decide), z 15 (by decide)]; decide +kernel
  · unfold xsh; rw [r 4 (by decide), z 17 (by decide), z 13 (by decide)]; decide +kernel
  · unfold ps_R; rw [r 8 (by decide)]; decide +kernel
  · rw [r 7 (by decide)]; decide +kernel
  · rw [i 13 (by decide)]; decide +kernel
  · intro s hs2
    rw [n9] at hs2
    obtain ⟨u, hu2⟩ := hu s hs2
    exact ⟨u, us_b bb hu2⟩
  · have e0 : ∀ j, vd 0 0 j → j = 0 := fun j hj => by unfold vd at hj; omega
    have t0 : ∀ q, q < 200 → mR ZZ_ 17 0 q = none := by decide +kernel
    have t1 : ∀ q, q < 200 → mR ZZ_ 17 1 q = none := by decide +kernel
    refine ⟨fun _ => 0, 0, 0, ⟨by decide, by decide, by decide, by decide, ?_, fun q hq => ?_, fun q hq => ?_, fun j hj => ?_, fun a b ha hb _ => ?_⟩, n9, ?_, ?_⟩
    · rw [r 4 (by decide)]; decide +kernel
    · rw [r 17 (by decide), if_neg (by omega)]; exact t0 q hq
    · rw [r 17 (by decide), if_neg (by omega)]; exact t1 q hq
    · rw [n9]; exact ⟨by show 0 < 2; decide, by show ¬ 0 = 1; decide⟩
    · rw [e0 a ha, e0 b hb]
    · exact Nat.le_trans rm.1 (by decide)
    · exact Nat.le_trans rm.2 (by decide)
  · rw [r 5 (by decide)]; decide +kernel
  · rw [z 14 (by decide), z 16 (by decide)]; decide +kernel
  · rw [z 19 (by decide)]; decide +kernel
  · rw [i 14 (by decide), i 5 (by decide), l 16 (by decide), l 5 (by decide), show mI ZZ_ 14 3 = fun _ => 0 from funext ZZ_3, show mL ZZ_ 16 4 = fun _ => 0 from funext ZZ_4, show mI ZZ_ 5 0 8 = 0 by decide +kernel, show mI ZZ_ 5 0 10 = 0 by decide +kernel, show mL ZZ_ 5 0 11 = 0 by decide +kernel]
    exact mo_0
  · intro a _ _
    rw [i 14 (by decide)]
    exact ZZ_1 a
  · rw [r 0 (by decide)]; decide +kernel
  · rw [r 6 (by decide)]; decide +kernel
  · rw [z 16 (by decide)]; decide +kernel
  · rw [i 0 (by decide)]; decide +kernel
  · rw [z 14 (by decide)]; decide +kernel
  · rw [n 14 (by decide)]; decide +kernel
  · exact ⟨rs_5 RG_ps, rs_6 RG_ps, rs_7 RG_ps, rs_8 RG_ps, rs_9 RG_ps, rs_10 RG_ps, rs_11 RG_ps, rs_16 RG_ps, rs_17 RG_ps, rs_35 RG_ps, rs_36 RG_ps, rs_39 RG_ps, rs_43 RG_ps, rs_44 RG_ps, rs_45 RG_ps, rs_46 RG_ps⟩
  · exact ⟨rz_13_0 RG_ps, rz_13_1 RG_ps, rz_13_2 RG_ps, rz_13_3 RG_ps, rz_14_1 RG_ps, rz_14_2 RG_ps, rz_14_3 RG_ps, rz_14_4 RG_ps, rz_14_5 RG_ps, rz_14_6 RG_ps, rz_14_7 RG_ps, rz_15_0 RG_ps, rz_16_1 RG_ps, rz_16_2 RG_ps, rz_16_4 RG_ps, rz_16_5 RG_ps⟩
  · rw [show mI RG_ 14 3 = fun _ => 0 from funext (fun x => RG_I 14 3 x), RG_I 1 0 34, RG_I 1 0 38, show mL RG_ 16 4 = fun _ => 0 from funext (fun x => RG_L 16 4 x), RG_L 1 0 37]
    exact mo_0
  · rw [i 5 (by decide), RG_I]; decide +kernel
  · rw [i 5 (by decide), RG_I]; decide +kernel
  · rw [i 5 (by decide), RG_I]; decide +kernel
  · rw [i 5 (by decide), RG_I]; decide +kernel
  · rw [i 0 (by decide), RG_I]; decide +kernel
  · rw [i 0 (by decide)]; decide +kernel
  · rw [i 0 (by decide)]; decide +kernel
  · rw [i 0 (by decide)]; decide +kernel
  · rw [i 2 (by decide)]; decide +kernel
end JFI
