/-! PURE: the reference's helpers are s_help. -/
theorem pS_int {a : Nat} (h : a ≤ 100000) : (pS a).toInt = (a : Int) - 512 := by
  unfold pS
  rw [Int32.toInt_sub, nI_int (by omega), show (512 : Int32).toInt = 512 from rfl, Int.bmod_def]
  show (if ((a : Int) - 512) % 4294967296 < (4294967296 + 1) / 2 then _ else _) = _
  omega
theorem pS_of0 {p : Int32} (h1 : -512 ≤ p.toInt) (h2 : p.toInt ≤ 0) : ∃ r, r ≤ 512 ∧ p = pS r ∧ (r : Int) = p.toInt + 512 := by
  obtain ⟨r, hr⟩ : ∃ r : Nat, (r : Int) = p.toInt + 512 := ⟨(p.toInt + 512).toNat, by omega⟩
  refine ⟨r, by omega, ?_, hr⟩
  apply Int32.toInt_inj.mp
  rw [pS_int (by omega)]
  omega
section RH
variable {M M1 M2 : me_M} {c : Int64} {nm : Nat} {kb vb : Int32 → Int32}
theorem rq_of {r : Nat} (hr : r < 512) : s_q (rv M 0) (pS r) ↔ (cK (rv M 0 (sl (pS r))) = 1 ∨ (cK (rv M 0 (sl (pS r))) = 0 ∧ mI M 13 10 (r / 8) &&& jishl 1 (nI (r % 8)) = jishl 1 (nI (r % 8)))) := by
  show (cK (rv M 0 (sl (pS r))) = 1 ∨ (cK (rv M 0 (sl (pS r))) = 0 ∧ cW (rv M 0 (sl (pS r))) &&& jishl 1 (pS r &&& 7) = jishl 1 (pS r &&& 7))) ↔ _
  rw [(pS_t1 r hr).2.2.1]
  constructor
  · rintro (z | z)
    · exact Or.inl z
    · refine Or.inr ⟨z.1, ?_⟩
      have ew : cW (rv M 0 (sl (pS r))) = mI M 13 10 (r / 8) := by
        have g0 := z.1
        rw [rv_s hr] at g0 ⊢
        have g0' : mI M 14 8 (11 + r / 8) = 0 := g0
        unfold it cn
        exact if_pos g0'
      rw [← ew]
      exact z.2
  · rintro (z | z)
    · exact Or.inl z
    · refine Or.inr ⟨z.1, ?_⟩
      have ew : cW (rv M 0 (sl (pS r))) = mI M 13 10 (r / 8) := by
        have g0 := z.1
        rw [rv_s hr] at g0 ⊢
        have g0' : mI M 14 8 (11 + r / 8) = 0 := g0
        unfold it cn
        exact if_pos g0'
      rw [ew]
      exact z.2
theorem rable_l (h : ps_M M) {x : Int32} {i r n : Nat} (hx : ok x i) (k3 : mI M 14 8 i = 3) (hrn : r + n ≤ 512) : ∀ (k j fu : Nat), j + k = n → k < fu → f_M_readable_l58 0 x (nI n) fu M (pS r) (nI j) = some (M, if b1 (∀ q : Int32, ((r + j : Nat) : Int) - 512 ≤ q.toInt → q.toInt < ((r + n : Nat) : Int) - 512 → s_q (rv M 0) q) = 0 then 17 else 0) := by
  intro k
  induction k with
  | zero =>
    intro j fu e hf
    obtain ⟨fu, rfl⟩ : ∃ f, fu = f + 1 := ⟨fu - 1, by omega⟩
    rw [f_M_readable_l58, if_pos ((nI_lei (by omega) (by omega)).mpr (by omega)), if_neg (b1_n0 (fun q h1 h2 => by omega))]
  | succ k ih =>
    intro j fu e hf
    obtain ⟨fu, rfl⟩ : ∃ f, fu = f + 1 := ⟨fu - 1, by omega⟩
    have hr : r + j < 512 := by omega
    rw [f_M_readable_l58, if_neg (fun z => by have := (nI_lei (by omega) (by omega)).mp z; omega), rs_47 h, bd_some, rz_14_8 h, hx.2.1, gd_pos (of_eq_true (ok_g hx)), if_pos k3, pS_add, r_iss h hr, b2_some, nI_s]
    have yes : s_q (rv M 0) (pS (r + j)) → f_M_readable_l58 0 x (nI n) fu M (pS r) (nI (j + 1)) = some (M, if b1 (∀ q : Int32, ((r + j : Nat) : Int) - 512 ≤ q.toInt → q.toInt < ((r + n : Nat) : Int) - 512 → s_q (rv M 0) q) = 0 then 17 else 0) := by
      intro g
      rw [ih (j + 1) fu (by omega) (by omega)]
      refine congrArg (fun z : Int32 => some (M, if z = 0 then (17 : Int32) else 0)) (b1_c ⟨?_, ?_⟩)
      · intro z q h1 h2
        by_cases eq : q.toInt = ((r + j : Nat) : Int) - 512
        · rw [show q = pS (r + j) from Int32.toInt_inj.mp (by rw [eq, pS_int (by omega)])]; exact g
        · exact z q (by omega) h2
      · intro z q h1 h2
        exact z q (by omega) h2
    have no : ¬ s_q (rv M 0) (pS (r + j)) → (some (M, (17 : Int32)) : Option (me_M × Int32)) = some (M, if b1 (∀ q : Int32, ((r + j : Nat) : Int) - 512 ≤ q.toInt → q.toInt < ((r + n : Nat) : Int) - 512 → s_q (rv M 0) q) = 0 then 17 else 0) := by
      intro g
      rw [if_pos (b1_f (fun z => g (z (pS (r + j)) (by rw [pS_int (by omega)]; omega) (by rw [pS_int (by omega)]; omega))))]
    by_cases g0 : cK (rv M 0 (sl (pS (r + j)))) = 0
    · rw [if_pos g0, if_pos rfl, r_isw h hr, b2_some]
      by_cases g1 : mI M 13 10 ((r + j) / 8) &&& jishl 1 (nI ((r + j) % 8)) = jishl 1 (nI ((r + j) % 8))
      · rw [if_pos g1, if_neg (by decide)]
        exact yes ((rq_of hr).mpr (Or.inr ⟨g0, g1⟩))
      · rw [if_neg g1, if_pos rfl]
        exact no (fun z => ((rq_of hr).mp z).elim (fun q => by rw [g0] at q; exact absurd q (by decide)) (fun q => g1 q.2))
    · have ek : mI M 14 8 (11 + (r + j) / 8) = cK (rv M 0 (sl (pS (r + j)))) := by rw [rv_s hr]; rfl
      rw [if_neg g0, if_neg (by decide), r_slot hr, bd_some, n11, pi_isNumber h (ok_n (show 11 + (r + j) / 8 < 30081 by omega)), b2_some, ek]
      by_cases g1 : cK (rv M 0 (sl (pS (r + j)))) = 1
      · rw [if_pos g1, if_neg (by decide)]
        exact yes ((rq_of hr).mpr (Or.inl g1))
      · rw [if_neg g1, if_pos rfl]
        exact no (fun z => ((rq_of hr).mp z).elim g1 (fun q => g0 q.1))
theorem rfrd (h : ps_M M) (hk : kv M) (hr : rst M nm kb vb) (hw : s_wf nm (rv M 0)) {i : Nat} (hi : i < 11) {n : Int32} (hn : 0 ≤ n.toInt) (hn2 : n.toInt ≤ 512) : f_M_readable M 0 (nI i) n = some (M, s_frd vb (rv M 0) (rv M 0 i) n) := by
  have ot : ok (nI i) i := ok_n (by omega)
  have tR : rv M 0 i = it M 0 i := rv_r hi
  have ek : mI M 14 8 i = cK (rv M 0 i) := by rw [tR]; rfl
  obtain ⟨k, hk9, ekk⟩ := hk i
  unfold f_M_readable s_frd
  rw [rs_47 h, bd_some, rz_14_8 h, ot.2.1, gd_pos (of_eq_true (ok_g ot)), ek]
  by_cases k0 : cK (rv M 0 i) = 0
  · rw [if_pos k0, if_pos k0]
  rw [if_neg k0, if_neg k0, pi_isPointer h ot hk9 ekk, b2_some, ← ekk, ek]
  by_cases hp : c_ptr (rv M 0 i)
  case neg =>
    rw [if_neg hp, if_pos rfl, if_neg (fun z => hp (Or.inr (Or.inl z))), if_neg (fun z => hp (Or.inr (Or.inr (Or.inl z)))), if_neg (fun z => hp (Or.inr (Or.inr (Or.inr z))))]
  rw [if_pos hp, if_neg (by decide)]
  by_cases k2 : cK (rv M 0 i) = 2
  · rw [if_pos k2, if_neg (by rw [k2]; decide), if_neg (by rw [k2]; decide), if_neg (by rw [k2]; decide)]
  rw [if_neg k2, rs_48 h, bd_some, rz_13_6 h, gd_pos (of_eq_true (ok_g ot)), st_eq, pl_of hi hp]
  have bnd := (hw i (by omega)).1
  obtain ⟨q, a1, a2, a3, _⟩ := rmf h hr ot (w := 0) (n := n) (pl := cPl (rv M 0 i)) (al := 0) (by rw [← tR]; exact fun z => (hw i (by omega)).2 (Or.inr (Or.inl z))) (fun _ => by omega) hn hn2 (Or.inr ⟨rfl, by rw [← tR]; exact k2⟩)
  rw [← tR] at a2 a3
  rw [a1, b2_some]
  by_cases k3 : cK (rv M 0 i) = 3
  · rw [if_pos k3]
    have sk : s_ok vb (rv M 0 i) (cPl (rv M 0 i)) n 0 ↔ (¬ cPl (rv M 0 i) < -512 ∧ cPl (rv M 0 i) + n ≤ 0) := by
      unfold s_ok
      rw [k3]
      constructor
      · rintro (z | z | z | z)
        · exact absurd z.1 (by decide)
        · exact ⟨z.2.1, Int32.not_lt.mp z.2.2.1⟩
        · exact absurd z.1 (by decide)
        · exact absurd z.1 (by decide)
      · exact fun z => Or.inr (Or.inl ⟨rfl, z.1, Int32.not_lt.mpr z.2, Or.inl rfl⟩)
    by_cases ho : s_ok vb (rv M 0 i) (cPl (rv M 0 i)) n 0
    · rw [a2 hp ho, if_pos (show (0 : Int32) ≤ 0 by decide)]
      obtain ⟨z1, z2⟩ := sk.mp ho
      have z1' := z1
      have z2' := z2
      rw [Int32.lt_iff_toInt_lt, show (-512 : Int32).toInt = -512 from rfl] at z1'
      rw [Int32.le_iff_toInt_le, add_b (by omega) (by omega) (by omega) (by omega), show (0 : Int32).toInt = 0 from rfl] at z2'
      obtain ⟨N, hN⟩ : ∃ N : Nat, n = nI N ∧ (N : Int) = n.toInt := by
        refine ⟨n.toInt.toNat, ?_, by omega⟩
        apply Int32.toInt_inj.mp
        rw [nI_int (by omega)]
        omega
      obtain ⟨r, r1, r2, r3⟩ := pS_of0 (p := cPl (rv M 0 i)) (by omega) (by omega)
      have key := rable_l (n := N) (r := r) h ot (ek.trans k3) (by omega) N 0 fuel (by omega) (by unfold fuel; omega)
      rw [r2, hN.1, show (0 : Int32) = nI 0 from rfl, key]
      have e1 : (pS r).toInt = ((r + 0 : Nat) : Int) - 512 := by rw [pS_int (by omega)]; rfl
      have e2 : (pS r + nI N).toInt = ((r + N : Nat) : Int) - 512 := by
        rw [pS_add, pS_int (by omega)]
      refine congrArg (fun z : Int32 => some (M, if z = nI 0 then (17 : Int32) else nI 0)) (b1_c ⟨?_, ?_⟩)
      · intro z
        refine ⟨by rw [← r2]; exact z1, by rw [← hN.1, ← r2]; exact z2, ?_⟩
        intro q h1 h2
        exact z q (by omega) (by omega)
      · intro z q h1 h2
        exact z.2.2 q (by omega) (by omega)
    · rw [a3 hp ho, if_neg (show ¬ (14 : Int32) ≤ 0 by decide), if_pos (b1_f (fun z => ho (sk.mpr ⟨z.1, z.2.1⟩)))]
  rw [if_neg k3]
  have lz : f_M_readable_l58 0 (nI i) n fuel M (cPl (rv M 0 i)) 0 = some (M, 0) := by
    rw [show fuel = (fuel - 1) + 1 from by unfold fuel; rfl, f_M_readable_l58]
    by_cases g : n ≤ 0
    · rw [if_pos g]
    · rw [if_neg g, rs_47 h, bd_some, rz_14_8 h, ot.2.1, gd_pos (of_eq_true (ok_g ot)), ek, if_neg k3]
  by_cases k4 : cK (rv M 0 i) = 4
  · rw [if_pos k4]
    have sk : s_ok vb (rv M 0 i) (cPl (rv M 0 i)) n 0 ↔ s_inp (rv M 0 i) (cPl (rv M 0 i)) n.toInt64 := by
      unfold s_ok
      rw [k4]
      constructor
      · rintro (z | z | z | z)
        · exact absurd z.1 (by decide)
        · exact absurd z.1 (by decide)
        · exact z.2
        · exact absurd z.1 (by decide)
      · exact fun z => Or.inr (Or.inr (Or.inl ⟨rfl, z⟩))
    by_cases ho : s_ok vb (rv M 0 i) (cPl (rv M 0 i)) n 0
    · rw [a2 hp ho, if_pos (show (0 : Int32) ≤ 0 by decide), lz, if_neg (b1_n0 (sk.mp ho))]
    · rw [a3 hp ho, if_neg (show ¬ (14 : Int32) ≤ 0 by decide), if_pos (b1_f (fun z => ho (sk.mpr z)))]
  rw [if_neg k4]
  have k7 : cK (rv M 0 i) = 7 := by
    rcases hp with z | z | z | z
    · exact absurd z k2
    · exact absurd z k3
    · exact absurd z k4
    · exact z
  rw [if_pos k7]
  have sk : s_ok vb (rv M 0 i) (cPl (rv M 0 i)) n 0 ↔ s_inv vb (rv M 0 i) (cPl (rv M 0 i)) n.toInt64 := by
    unfold s_ok
    rw [k7]
    constructor
    · rintro (z | z | z | z)
      · exact absurd z.1 (by decide)
      · exact absurd z.1 (by decide)
      · exact absurd z.1 (by decide)
      · exact z.2
    · exact fun z => Or.inr (Or.inr (Or.inr ⟨rfl, z⟩))
  by_cases ho : s_ok vb (rv M 0 i) (cPl (rv M 0 i)) n 0
  · rw [a2 hp ho, if_pos (show (0 : Int32) ≤ 0 by decide), lz, if_neg (b1_n0 (sk.mp ho))]
  · rw [a3 hp ho, if_neg (show ¬ (14 : Int32) ≤ 0 by decide), if_pos (b1_f (fun z => ho (sk.mpr z)))]
theorem rfar (h : ps_M M) (hk : kv M) (hr : rst M nm kb vb) (hw : s_wf nm (rv M 0)) (hkb : ∀ m, m < nm → 0 ≤ (kb (nI m)).toInt ∧ (kb (nI m)).toInt ≤ 512 ∧ 0 ≤ (vb (nI m)).toInt ∧ (vb (nI m)).toInt ≤ 512) (hfd : d_field c = 1 ∨ d_field c = 2 ∨ d_field c = 3 ∨ d_field c = 4 ∨ d_field c = 5 ∨ d_field c = 6) : f_M_callFault M 0 (d_field c) = some (M, s_far c kb vb (rv M 0)) := by
  have o1 : ok 1 1 := ok_n (i := 1) (by decide)
  have o2 : ok 2 2 := ok_n (i := 2) (by decide)
  have R1 : rv M 0 1 = it M 0 1 := rv_r (by decide)
  have R2 : rv M 0 2 = it M 0 2 := rv_r (by decide)
  have ek1 : mI M 14 8 1 = cK (rv M 0 1) := by rw [R1]; rfl
  have ek2 : mI M 14 8 2 = cK (rv M 0 2) := by rw [R2]; rfl
  have nf1 : f_M_numberFault M 0 1 = some (M, if cK (rv M 0 1) = 0 then 10 else if cK (rv M 0 1) = 1 then 0 else 17) := by
    unfold f_M_numberFault
    rw [rs_47 h, bd_some, rz_14_8 h, o1.2.1, gd_pos (of_eq_true (ok_g o1)), pi_isNumber h o1, b2_some, ek1]
    by_cases g0 : cK (rv M 0 1) = 0
    · rw [if_pos g0, if_pos g0]
    · rw [if_neg g0, if_neg g0]
      by_cases g1 : cK (rv M 0 1) = 1
      · rw [if_pos g1, if_pos g1, if_neg (by decide)]
      · rw [if_neg g1, if_neg g1, if_pos rfl]
  have nf2 : f_M_numberFault M 0 2 = some (M, if cK (rv M 0 2) = 0 then 10 else if cK (rv M 0 2) = 1 then 0 else 17) := by
    unfold f_M_numberFault
    rw [rs_47 h, bd_some, rz_14_8 h, o2.2.1, gd_pos (of_eq_true (ok_g o2)), pi_isNumber h o2, b2_some, ek2]
    by_cases g0 : cK (rv M 0 2) = 0
    · rw [if_pos g0, if_pos g0]
    · rw [if_neg g0, if_neg g0]
      by_cases g1 : cK (rv M 0 2) = 1
      · rw [if_pos g1, if_pos g1, if_neg (by decide)]
      · rw [if_neg g1, if_neg g1, if_pos rfl]
  have mf1 : f_M_mapFault M 0 1 = some (M, if cK (rv M 0 1) = 0 then 10 else if cK (rv M 0 1) = 6 then 0 else 17) := by
    unfold f_M_mapFault
    rw [rs_47 h, bd_some, rz_14_8 h, o1.2.1, gd_pos (of_eq_true (ok_g o1)), ek1]
    by_cases g0 : cK (rv M 0 1) = 0
    · rw [if_pos g0, if_pos g0]
    · rw [if_neg g0, if_neg g0]
      by_cases g1 : cK (rv M 0 1) = 6
      · rw [if_pos g1, if_pos g1]
      · rw [if_neg g1, if_neg g1]
  -- the maps' helpers
  have maps : (d_field c = 1 ∨ d_field c = 2 ∨ d_field c = 3) → f_M_callFault M 0 (d_field c) = some (M, s_fa1 c kb vb (rv M 0) (rv M 0 1) 6) := by
    intro h3
    have n4 : ¬ 4 ≤ d_field c := by rcases h3 with z | z | z <;> rw [z] <;> decide
    have e4 : ¬ d_field c = 4 := by rcases h3 with z | z | z <;> rw [z] <;> decide
    have e6 : ¬ d_field c = 6 := by rcases h3 with z | z | z <;> rw [z] <;> decide
    have b32z : ∀ y : Int32, ¬ y = 0 → f_M_callFault_b32 0 (d_field c) M y = some (M, y) := by
      intro y hy
      unfold f_M_callFault_b32
      rw [if_neg hy]
    unfold f_M_callFault s_fa1
    rw [if_neg n4, mf1, b2_some]
    by_cases g6 : cK (rv M 0 1) = 6
    · obtain ⟨m, hm1, hm2⟩ := (hw 1 (by decide)).2 (Or.inl g6)
      have g6' : mI M 14 8 1 = 6 := ek1.trans g6
      have em : mI M 13 7 1 = nI m := by
        rw [← hm2, R1]
        unfold it cn
        exact (if_pos (Or.inl g6')).symm
      have h4 := hr.1
      have hkm := hkb m hm1
      have R : f_M_readable M 0 2 (kb (nI m)) = some (M, s_frd vb (rv M 0) (rv M 0 2) (kb (nI m))) := rfrd h hk hr hw (i := 2) (by decide) (n := kb (nI m)) (by omega) (by omega)
      have g0 : ¬ cK (rv M 0 1) = 0 := by rw [g6]; decide
      simp only [if_neg g0, if_pos g6, if_neg e4, if_neg e6]
      rw [if_pos trivial, rs_6 h, bd_some, rs_49 h, bd_some, rz_13_7 h, gd_pos (by decide), em, rz_13_1 h, gd_pos (ix_ok (by omega) (by decide)), nI_tn (by omega), (hr.2 m hm1).1, R, b2_some, hm2]
      by_cases f0 : s_frd vb (rv M 0) (rv M 0 2) (kb (nI m)) = 0
      · rw [if_pos f0]
        unfold f_M_callFault_b32
        rw [if_pos f0]
        by_cases f2 : d_field c = 2
        · have R3 : f_M_readable M 0 3 (vb (nI m)) = some (M, s_frd vb (rv M 0) (rv M 0 3) (vb (nI m))) := rfrd h hk hr hw (i := 3) (by decide) (n := vb (nI m)) (by omega) (by omega)
          rw [if_pos f2, if_pos f2, rs_7 h, bd_some, rs_49 h, bd_some, rz_13_7 h, gd_pos (by decide), em, rz_13_2 h, gd_pos (ix_ok (by omega) (by decide)), nI_tn (by omega), (hr.2 m hm1).2, R3, b2_some]
        · rw [if_neg f2, if_neg f2, f0]
      · rw [if_neg f0, b32z _ f0]
    · by_cases g0 : cK (rv M 0 1) = 0
      · simp only [if_pos g0, if_neg g6]
        rw [if_neg (by decide), b32z 10 (by decide)]
      · simp only [if_neg g0, if_neg g6]
        rw [if_neg (by decide), b32z 17 (by decide)]
  unfold s_far
  rcases hfd with z | z | z | z | z | z
  · rw [if_neg (show ¬ d_field c = 5 by rw [z]; decide), if_neg (show ¬ d_field c = 6 by rw [z]; decide), if_neg (show ¬ d_field c = 4 by rw [z]; decide)]; exact maps (Or.inl z)
  · rw [if_neg (show ¬ d_field c = 5 by rw [z]; decide), if_neg (show ¬ d_field c = 6 by rw [z]; decide), if_neg (show ¬ d_field c = 4 by rw [z]; decide)]; exact maps (Or.inr (Or.inl z))
  · rw [if_neg (show ¬ d_field c = 5 by rw [z]; decide), if_neg (show ¬ d_field c = 6 by rw [z]; decide), if_neg (show ¬ d_field c = 4 by rw [z]; decide)]; exact maps (Or.inr (Or.inr z))
  · have n5 : ¬ d_field c = 5 := by rw [z]; decide
    have n6 : ¬ d_field c = 6 := by rw [z]; decide
    have l4 : 4 ≤ d_field c := by rw [z]; decide
    unfold f_M_callFault s_fa1
    simp only [if_neg n5, if_neg n6, if_pos l4, if_pos z]
    rw [nf1, b2_some]
    by_cases g1 : cK (rv M 0 1) = 1
    · have g0 : ¬ cK (rv M 0 1) = 0 := by rw [g1]; decide
      simp only [if_neg g0, if_pos g1]
    · by_cases g0 : cK (rv M 0 1) = 0
      · simp only [if_pos g0, if_neg g1]
      · simp only [if_neg g0, if_neg g1]
  · have n4 : ¬ d_field c = 4 := by rw [z]; decide
    have l4 : 4 ≤ d_field c := by rw [z]; decide
    unfold f_M_callFault
    simp only [if_neg n4, if_pos l4, if_pos z]
  · have n4 : ¬ d_field c = 4 := by rw [z]; decide
    have n5 : ¬ d_field c = 5 := by rw [z]; decide
    have l4 : 4 ≤ d_field c := by rw [z]; decide
    unfold f_M_callFault s_fa1
    simp only [if_neg n4, if_neg n5, if_pos l4, if_pos z]
    rw [nf2, b2_some]
    by_cases g1 : cK (rv M 0 2) = 1
    · have g0 : ¬ cK (rv M 0 2) = 0 := by rw [g1]; decide
      have eX : cX (rv M 0 2) = rg M 2 := by rw [R2]; exact it_x (Or.inl (by rw [← R2]; exact g1))
      simp only [if_neg g0, if_pos g1]
      rw [if_pos trivial, rs_55 h, bd_some, rz_16_9 h, gd_pos (by decide), show mL M 16 9 2 = (rg M 2).2.2.2.1 from rfl, ← eX, pm_below, bd_some]
      unfold f_M_callFault_b108
      by_cases g5 : fn_lt 512 (cX (rv M 0 2)).2.2.2.1
      · simp only [if_pos g5]
        rw [if_neg (by decide), if_neg (by decide)]
      · obtain ⟨b1', b2'⟩ := un_512 g5
        have R : f_M_readable M 0 1 (cX (rv M 0 2)).2.2.2.1.toInt32 = some (M, s_frd vb (rv M 0) (rv M 0 1) (cX (rv M 0 2)).2.2.2.1.toInt32) := rfrd h hk hr hw (i := 1) (by decide) (n := (cX (rv M 0 2)).2.2.2.1.toInt32) b1' b2'
        simp only [if_neg g5]
        rw [if_pos trivial, if_pos (show (0 : Int32) ≤ 0 by decide), rs_55 h, bd_some, rz_16_9 h, gd_pos (by decide), show mL M 16 9 2 = (rg M 2).2.2.2.1 from rfl, ← eX, R, b2_some]
    · unfold f_M_callFault_b108
      by_cases g0 : cK (rv M 0 2) = 0
      · simp only [if_pos g0, if_neg g1]
        rw [if_neg (by decide), if_neg (by decide)]
      · simp only [if_neg g0, if_neg g1]
        rw [if_neg (by decide), if_neg (by decide)]
/-- what the helper gives -/
theorem rgive (h : ps_M M) (hk : kv M) {m : Int32} {τ : sT} (hv : ∀ i, i < 75 → rv M 0 i = s_lost τ i) {fu : Nat} : ∃ M1 r, f_M_call_l22 0 (d_field c) (fu + 1) M m 6 = some (M1, r) ∧ rG rX w64 M M1 ∧ kv M1 ∧ rk M1 r (s_give c m τ (mI M 1 0 59)) := by
  have o0 : ok 0 0 := ok_n (i := 0) (by decide)
  have fin : ∀ (M1 : me_M) (z : sC), rG (tS 0) mT M M1 → it M1 0 0 = z → ∀ i, i < 75 → rv M1 0 i = up (s_lost τ) 0 z i := by
    intro M1 z g e i hi
    rw [fin_r (by decide) g i hi, e]
    unfold up
    by_cases q : i = 0
    · rw [if_pos q, if_pos q]
    · rw [if_neg q, if_neg q, hv i hi]
  have s0 : ∀ (v : fn_N), ∃ M1, M1 = rt (ii M 0 1 0 0 0 0) 0 v ∧ rG rX w64 M M1 ∧ kv M1 ∧ rk M1 0 (.ok (up (s_lost τ) 0 (s_num v), mI M 1 0 59)) := by
    intro v
    have f : rf (fun g => g = 0) mT M (rt (ii M 0 1 0 0 0 0) 0 v) := rf_trans (rf_ii rfl) (rf_rt rfl)
    refine ⟨_, rfl, rf_X (Or.inl (by decide)) f, kv_rt (kv_ii (n := 1) hk (by decide)), rfl, fin _ _ (rG_f (rf_mono f (fun j q => Or.inl q) (fun j q => q))) ?_, rf_59 f⟩
    rw [it_both]
    rfl
  rw [f_M_call_l22, if_pos (by decide)]
  unfold s_give
  by_cases g1 : d_field c = 1
  · rw [if_pos g1, if_pos g1, show (8 : Int32) = nI 8 from rfl, pi_setKind h o0 (by decide), bd_some, rs_49 h, bd_some, rz_13_7 h, gd_pos (by decide), st_eq, st_eq, rs_50 h, bd_some, rz_13_8 h, gd_pos (by decide), st_eq]
    obtain ⟨A, hA⟩ : ∃ A, A = wI (ii M 0 (nI 8) 0 0 0 0) 13 7 0 m := ⟨_, rfl⟩
    rw [← hA]
    have fA : rf (fun g => g = 0) mT M A := by rw [hA]; exact rf_trans (rf_ii rfl) (rf_I iA7 rfl)
    have A59 : mI A 1 0 59 = mI M 1 0 59 := rf_59 fA
    have A8 : mI A 14 8 0 = 8 := by
      rw [hA, pI_I, if_neg (fun z => absurd z.1 (by decide))]
      unfold ii
      rw [pI_I, if_neg (fun z => absurd z.1 (by decide)), pI_I, if_neg (fun z => absurd z.1 (by decide)), pI_I, if_neg (fun z => absurd z.1 (by decide)), pI_I, if_neg (fun z => absurd z.1 (by decide)), pI_same]
      rfl
    have A7 : mI A 13 7 0 = m := by rw [hA, pI_same]
    have kA2 : kv A := by
      rw [hA]
      exact kv_eq (kv_ii (n := 8) hk (by decide)) (fun q => by rw [pI_I, if_neg (fun z => absurd z.1 (by decide))])
    obtain ⟨B, hB⟩ : ∃ B, B = wI A 1 0 59 (mI A 1 0 59 + 1) := ⟨_, rfl⟩
    rw [← hB]
    have gB : rG (tS 0) mT M B := by rw [hB]; exact rG_trans (rG_f (rf_mono fA (fun j q => Or.inl q) (fun j q => q))) rG_59
    have B59 : mI B 1 0 59 = mI M 1 0 59 + 1 := by rw [hB, pI_same, A59]
    have B8 : mI B 14 8 0 = 8 := by rw [hB, pI_I, if_neg (fun z => absurd z.1 (by decide)), A8]
    have B7 : mI B 13 7 0 = m := by rw [hB, pI_I, if_neg (fun z => absurd z.1 (by decide)), A7]
    have kB2 : kv B := kv_eq kA2 (fun q => by rw [hB, pI_I, if_neg (fun z => absurd z.1 (by decide))])
    rw [B59]
    have gC : rG (tS 0) mT M (wI B 13 8 0 (mI M 1 0 59 + 1)) := rG_trans gB (rG_f (rf_I iA8 (Or.inl rfl)))
    refine ⟨_, 0, rfl, rG_mono gC (fun j q => q.elim (fun z => Or.inl (by omega)) Or.inr) (fun j q => q.elim), kv_eq kB2 (fun q => by rw [pI_I, if_neg (fun z => absurd z.1 (by decide))]), rfl, fin _ _ gC ?_, ?_⟩
    · unfold it
      rw [pI_I, if_neg (fun z => absurd z.1 (by decide)), B8, kB (by decide), kB (by decide), B7, pI_same]
      unfold cn
      simp
      rfl
    · rw [pI_I, if_neg (fun z => absurd z.1 (by decide))]
      exact B59
  rw [if_neg g1, if_neg g1]
  by_cases g4 : d_field c = 4
  · rw [if_pos g4, if_pos g4, pi_toNumber h o0, bd_some]
    obtain ⟨M1, e, a⟩ := s0 (fn_ex 0)
    rw [← e]
    exact ⟨M1, 0, rfl, a⟩
  rw [if_neg g4, if_neg g4]
  by_cases g6 : d_field c = 6
  · rw [if_pos g6, if_pos g6, pi_toRead h o0 (by decide), bd_some]
    obtain ⟨M1, e, a⟩ := s0 (fn_rd 4)
    rw [← e]
    exact ⟨M1, 0, rfl, a⟩
  rw [if_neg g6, if_neg g6, pi_toAny h o0, bd_some]
  obtain ⟨M1, e, a⟩ := s0 fn_any
  rw [← e]
  exact ⟨M1, 0, rfl, a⟩
theorem rlost_l {m : Int32} {τ : sT} {ids : Int32} : ∀ (k y fu : Nat) (N : me_M), y + k = 6 → 1 ≤ y → k < fu → ps_M N → kv N → rG rX w64 M N → (∀ i, i < 75 → rv N 0 i = if 1 ≤ i ∧ i < y then s_bare 0 else τ i) → mI N 1 0 59 = ids → ∃ M1 r, f_M_call_l22 0 (d_field c) fu N m (nI y) = some (M1, r) ∧ rG rX w64 M M1 ∧ kv M1 ∧ rk M1 r (s_give c m τ ids) := by
  intro k
  induction k with
  | zero =>
    intro y fu N e hy hf hN kN gN hv h59
    obtain ⟨fu, rfl⟩ : ∃ f, fu = f + 1 := ⟨fu - 1, by omega⟩
    have e6 : y = 6 := by omega
    subst e6
    obtain ⟨M1, r, a1, a2, a3, a4⟩ := rgive (c := c) (m := m) (τ := τ) hN kN (fun i hi => by
      rw [hv i hi]
      unfold s_lost
      by_cases g : 1 ≤ i ∧ i < 6
      · rw [if_pos g, if_pos (by omega)]
      · rw [if_neg g, if_neg (by omega)]) (fu := fu)
    rw [h59] at a4
    exact ⟨M1, r, a1, rG_trans gN a2, a3, a4⟩
  | succ k ih =>
    intro y fu N e hy hf hN kN gN hv h59
    obtain ⟨fu, rfl⟩ : ∃ f, fu = f + 1 := ⟨fu - 1, by omega⟩
    have oy : ok (nI y) y := ok_n (by omega)
    rw [f_M_call_l22, if_neg (by rw [show (6 : Int32) = nI 6 from rfl, nI_lei (by omega) (by omega)]; omega), pi_clear hN oy, bd_some, nI_s]
    have f : rf (fun g => g = y) mT N (ii N y 0 0 0 0 0) := rf_ii rfl
    refine ih (y + 1) fu _ (by omega) (by omega) (by omega) (ps_ii hN) (kv_ii (n := 0) kN (by decide)) (rG_trans gN (rf_X (Or.inl (by omega)) f)) ?_ ((rf_59 f).trans h59)
    intro i hi
    rw [fin_r (by omega) (rG_f (rf_mono f (fun j q => Or.inl q) (fun j q => q))) i hi, it_ii, cn0]
    unfold up
    by_cases q : i = y
    · rw [if_pos q, if_pos (by omega)]
    · rw [if_neg q, hv i hi]
      by_cases g : 1 ≤ i ∧ i < y
      · rw [if_pos g, if_pos (by omega)]
      · rw [if_neg g, if_neg (by omega)]
theorem frd_0 {σ : sT} {p : sC} {n : Int32} : s_frd vb σ p n = 0 ∨ s_frd vb σ p n = 10 ∨ s_frd vb σ p n = 17 := by
  unfold s_frd
  repeat' split
  all_goals first | exact Or.inl rfl | exact Or.inr (Or.inl rfl) | exact Or.inr (Or.inr rfl)
theorem far_0 {σ : sT} : s_far c kb vb σ = 0 ∨ s_far c kb vb σ = 10 ∨ s_far c kb vb σ = 17 := by
  unfold s_far s_fa1
  repeat' split
  all_goals first | exact frd_0 | exact Or.inl rfl | exact Or.inr (Or.inl rfl) | exact Or.inr (Or.inr rfl)
theorem rhelp (h : ps_M M) (hk : kv M) (hr : rst M nm kb vb) (hw : s_wf nm (rv M 0)) (hkb : ∀ m, m < nm → 0 ≤ (kb (nI m)).toInt ∧ (kb (nI m)).toInt ≤ 512 ∧ 0 ≤ (vb (nI m)).toInt ∧ (vb (nI m)).toInt ≤ 512) (hfd : d_field c = 1 ∨ d_field c = 2 ∨ d_field c = 3 ∨ d_field c = 4 ∨ d_field c = 5 ∨ d_field c = 6) : ∃ M1 r, f_M_call M 0 (d_field c) = some (M1, r) ∧ rG rX w64 M M1 ∧ kv M1 ∧ rk M1 r (s_help c kb vb (rv M 0) (mI M 1 0 59)) := by
  unfold f_M_call s_help
  rw [rfar h hk hr hw hkb hfd, b2_some]
  by_cases g : s_far c kb vb (rv M 0) = 0
  · rw [if_pos g, g, if_pos (by decide), rs_49 h, bd_some, rz_13_7 h, gd_pos (by decide), st_eq, show (1 : Int32) = nI 1 from rfl]
    obtain ⟨M1, r, a1, a2, a3, a4⟩ := rlost_l (M := M) (c := c) (m := mI M 13 7 1) (τ := rv M 0) 5 1 fuel M (by omega) (by omega) (by unfold fuel; omega) h hk rG_refl (fun i hi => by rw [if_neg (by omega)]) rfl
    refine ⟨M1, r, a1, a2, a3, ?_⟩
    rw [s_give_m (m := cM (rv M 0 1)) (m2 := mI M 13 7 1)]
    · exact a4
    · intro f1
      have k6 := far_1 f1 g
      rw [rv_r (by decide)] at k6 ⊢
      have k6' : mI M 14 8 1 = 6 := k6
      unfold it cn
      exact if_pos (Or.inl k6')
  · rw [if_neg g, if_neg (by
      rcases far_0 (c := c) (kb := kb) (vb := vb) (σ := rv M 0) with z | z | z
      · exact absurd z g
      · rw [z]; decide
      · rw [z]; decide)]
    exact ⟨M, _, rfl, rG_refl, hk, rfl⟩
end RH
