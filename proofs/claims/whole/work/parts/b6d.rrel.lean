/-! PURE: the reference's relations are s_rel. -/
/-- rooms are not below 0 -/
def s_rm (σ : sT) : Prop := ∀ i, i < 75 → ¬ cR (σ i) < 0
theorem room_0 {σ : sT} (h : s_rm σ) {id : Int32} : ∀ i, i < 75 → s_room id 0 σ i = σ i := by
  intro i hi
  unfold s_room s_room1
  by_cases g : cK (σ i) = 4 ∧ cI (σ i) = id
  · rw [if_pos g]
    have e : jimax (cR (σ i)) 0 = cR (σ i) := by
      unfold jimax
      rw [if_neg (h i hi)]
    rw [e]
  · rw [if_neg g]
section RV
variable {M M1 M2 N : me_M} {c : Int64} {w : Nat}
theorem rv_same {S T : Nat → Prop} (g : rf S T M N) (hS : ∀ f, f < 75 → ¬ S f) (hT : ∀ f, f < 75 → ¬ T f) : rv N 0 = rv M 0 := by
  funext i
  have hl : 75 * 0 + rho i < 75 := by unfold rho; split <;> omega
  unfold rv
  rw [rf_it g (hS _ hl)]
  by_cases q : i < 11
  · rw [if_pos q, if_pos q]
  · rw [if_neg q, if_neg q, g.2.2.2.1 13 10 _ (fun z => by
      rcases z.1 with y | y
      · exact absurd y.1 (by decide)
      · omega) (fun z => hT _ (by omega) z.2.2)]
theorem rJ_row {r : Nat} (hr : r = 0 ∨ (w < 200 ∧ r = 201 + w)) (g : rf (iR r) mT N M1) : rJ (jS w) (jT w) jO N M1 := rJ_mono (rJ_f g) (fun i z => by
  rcases hr with y | y
  · exact Or.inl (by have := z.2; omega)
  · exact Or.inr (Or.inr ⟨y.1, by rw [← y.2]; exact z⟩)) (fun i z => z.elim) (fun i z => z)
/-- a row is copied, then the two are told apart -/
theorem rtwo (h : ps_M N) (hk : kv N) (w1 : w < 200) (h68 : mI N 1 0 68 = 3) {go fall : sT} {K : me_M → Option (me_M × Int32)} (hK : ∀ A, rJ (jS w) (jT w) jO N A → kv A → (∀ f, f < 75 ∨ 30075 ≤ f → ∀ v, it A v f = it N v f ∧ ∀ k j, iA k j → mI A k j f = mI N k j f) → (∀ i, i < 75 → rv A (201 + w) i = rv N 0 i) → (∀ i, i < 75 → rv A 0 i = rv N 0 i) → mI A 1 0 68 = 3 → ∃ M1, K A = some (M1, 0) ∧ rJ (jS w) (jT w) jO N M1 ∧ kv M1 ∧ mI M1 1 0 68 = 3 ∧ (∀ i, i < 75 → rv M1 (201 + w) i = go i) ∧ (∀ i, i < 75 → rv M1 0 i = fall i)) : ∃ M1 q, bd (f_M_copyState N 0 0 (nI (201 + w))) K = some (M1, q) ∧ rJ (jS w) (jT w) jO N M1 ∧ kv M1 ∧ rrP M1 w (.ok (some go, some fall)) q := by
  obtain ⟨A, a1, a2, a3, a4⟩ := rcopy h hk (a := 0) (b := 201 + w) (by omega) (by omega) (by omega)
  rw [show (0 : Int32) = nI 0 from rfl, a1, bd_some]
  have gA' : rJ (jS w) (jT w) jO N A := rJ_mono (rJ_f a2) (fun i z => Or.inr (Or.inr ⟨w1, z⟩)) (fun i z => ⟨w1, z⟩) (fun i z => z)
  have rv0 : ∀ i, i < 75 → rv A 0 i = rv N 0 i := rJ_rv (rJ_f (O := jO) a2) (fun f z => by rintro ⟨y, _⟩; have := z.2; omega) (fun f z => by rintro ⟨y, _⟩; have := z.2; omega)
  have A68 : mI A 1 0 68 = 3 := by rw [a2.2.2.2.1 1 0 68 (fun z => by rcases z.1 with q | q <;> exact absurd q.1 (by decide)) (fun z => absurd z.1 (by decide))]; exact h68
  obtain ⟨M1, b1', b2', b3', b4', b5', b6'⟩ := hK A gA' a3 (fun f hf v => by
    have ns : ¬ iR (201 + w) f := fun z => by have := z.1; have := z.2; omega
    refine ⟨rf_it a2 ns, fun k j hkj => a2.2.2.2.1 k j f (fun z => ns z.2) (fun z => ?_)⟩
    rcases hkj with q | q
    · rw [q.1] at z; exact absurd z.1 (by decide)
    · omega) a4 rv0 A68
  refine ⟨M1, 0, b1', b2', b3', rfl, b4', fun _ => ⟨?_, ?_⟩, fun z => by omega⟩
  · intro τ z i hi
    rw [← Option.some.inj z]
    exact b5' i hi
  · intro τ z i hi
    rw [← Option.some.inj z]
    exact b6' i hi
theorem rrel (h : ps_M M) (hk : kv M) (hm : s_rm (rv M 0)) (ht : d_ti c < 11) (hf : d_fi c < 11) (f8 : d_fam c = 8) (hw : w ≤ 200) (h62 : mI M 1 0 62 = nI w) : ∃ M1 q, f_M_relate M 0 c = some (M1, q) ∧ rJ (jS w) (jT w) jO M M1 ∧ kv M1 ∧ (s_unr c (rv M 0) → q = 10) ∧ (¬ s_unr c (rv M 0) → rrP M1 w (s_rel c (rv M 0)) q) := by
  obtain ⟨t, ht1, e1, e2⟩ := d_ti_n ht
  obtain ⟨n, hn, hop⟩ := fam_c c
  have k8 : (kd (nI n)).1 = 8 := by rw [← hop]; exact f8
  have eo : (kd (nI n)).2.1 = d_opn c := by unfold d_opn; rw [hop]
  have en : (kd (nI n)).2.2.1 = d_nar c := by unfold d_nar; rw [hop]
  have er : (kd (nI n)).2.2.2.1 = d_rt c := by unfold d_rt; rw [hop]
  have ef : (kd (nI n)).2.2.2.2 = d_rf c := by unfold d_rf; rw [hop]
  have ert : d_rt c = 1 := by rw [← er]; exact t_rel3 n hn k8
  have hrf : k_fr (nI n) = d_rf c := by rw [← ef]; exact t_rf n hn (Or.inl k8)
  have hnar : f_M_isNarrow (nI n) = some (d_nar c) := by rw [← en]; exact t_nar n hn (Or.inl k8)
  have hrel : f_M_relationOf (jishr (nI n) 4) = some (d_opn c) := by rw [← eo]; exact t_rel1 n hn k8
  have r2 := t_rel2 n hn k8
  rw [eo] at r2
  obtain ⟨op, hop2, eop⟩ : ∃ op, op < 11 ∧ d_opn c = nI op := by
    simp only [List.mem_cons, List.not_mem_nil, or_false] at r2
    rcases r2 with r | r | r | r | r | r | r | r | r | r | r
    · exact ⟨0, by decide, r⟩
    · exact ⟨1, by decide, r⟩
    · exact ⟨2, by decide, r⟩
    · exact ⟨3, by decide, r⟩
    · exact ⟨4, by decide, r⟩
    · exact ⟨5, by decide, r⟩
    · exact ⟨6, by decide, r⟩
    · exact ⟨7, by decide, r⟩
    · exact ⟨8, by decide, r⟩
    · exact ⟨9, by decide, r⟩
    · exact ⟨10, by decide, r⟩
  have o13 : ¬ d_opn c = 13 := by
    simp only [List.mem_cons, List.not_mem_nil, or_false] at r2
    rcases r2 with r | r | r | r | r | r | r | r | r | r | r <;> rw [r] <;> decide
  have o14 : ¬ d_opn c = 14 := by
    simp only [List.mem_cons, List.not_mem_nil, or_false] at r2
    rcases r2 with r | r | r | r | r | r | r | r | r | r | r <;> rw [r] <;> decide
  obtain ⟨N, x, xx, b1', b2', b3', b4', b5', b6'⟩ := rsrc h hk hf hn hop hrf o13 o14
  have fN : rf (fun i => i = 30078) mT M N := by
    rcases b5' with z | z
    · rw [z.1]; exact rf_refl
    · rw [z.1]; exact rf_trans (rf_ii rfl) (rf_rt rfl)
  have hN : ps_M N := rf_ps fN h
  have ot : ok (nI t) t := ok_n (by omega)
  have rvN : rv N 0 = rv M 0 := rv_same fN (fun f z => by omega) (fun f _ z => z)
  have N62 : mI N 1 0 62 = nI w := by rw [fN.2.2.2.1 1 0 62 (fun z => by rcases z.1 with q | q <;> exact absurd q.1 (by decide)) (fun z => absurd z.1 (by decide))]; exact h62
  have ekt : mI N 14 8 t = cK (rv M 0 t) := by rw [← rvN, rv_r ht1]; rfl
  have ekx : mI N 14 8 x = cK (s_by c (rv M 0)) := by rw [← b4']; rfl
  have GN : rJ (jS w) (jT w) jO M N := rJ_mono (rJ_f fN) (fun i z => Or.inr (Or.inl (by omega))) (fun i z => z.elim) (fun i z => z)
  unfold f_M_relate
  rw [r_op, bd_some, hop, r_to, bd_some, b1', b2_some, hnar, bd_some, hrel, bd_some, rs_47 h, bd_some, rz_14_8 h, e1, ot.2.1, gd_pos (of_eq_true (ok_g ot)), ekt]
  by_cases t0 : cK (rv M 0 t) = 0
  · rw [if_pos t0]
    have un : s_unr c (rv M 0) := Or.inl ⟨by rw [ert]; decide, by rw [e2]; exact t0⟩
    exact ⟨N, 10, rfl, GN, b6', fun _ => rfl, fun z => absurd un z⟩
  rw [if_neg t0, b2'.2.1, gd_pos (of_eq_true (ok_g b2')), ekx]
  by_cases x0 : cK (s_by c (rv M 0)) = 0
  · rw [if_pos x0]
    have un : s_unr c (rv M 0) := by
      unfold s_by at x0
      by_cases z : d_rf c = 0
      · rw [if_pos z] at x0
        exact absurd (show (1 : Int32) = 0 from x0) (by decide)
      · rw [if_neg z] at x0
        exact Or.inr ⟨z, x0⟩
    exact ⟨N, 10, rfl, GN, b6', fun _ => rfl, fun z => absurd un z⟩
  have nun : ¬ s_unr c (rv M 0) := by
    rintro (z | z)
    · rw [e2] at z; exact t0 z.2
    · apply x0
      unfold s_by
      rw [if_neg z.1]
      exact z.2
  rw [if_neg x0, st_eq, st_eq, pI_I, if_neg (by decide), N62, show (201 : Int32) + nI w = nI (201 + w) from by rw [show (201 : Int32) = nI 201 from rfl, nI_add]]
  obtain ⟨P, hPd⟩ : ∃ P, P = wI N 1 0 68 3 := ⟨_, rfl⟩
  rw [← hPd]
  have GP : rJ (jS w) (jT w) jO M P := by rw [hPd]; exact rJ_trans GN (rJ_o rfl)
  have hP : ps_M P := rJ_ps GP h
  have Pk : ∀ k j f, ¬ k = 1 → mI P k j f = mI N k j f := by
    intro k j f hk1
    rw [hPd, pI_I, if_neg (fun z => hk1 z.1)]
  have kP : kv P := kv_eq b6' (fun q => Pk 14 8 q (by decide))
  have P68 : mI P 1 0 68 = 3 := by rw [hPd, pI_same]
  have P62 : mI P 1 0 62 = nI w := by rw [hPd, pI_I, if_neg (by decide)]; exact N62
  have rvP : rv P 0 = rv M 0 := by rw [hPd, rv_1]; exact rvN
  have pkt : mI P 14 8 t = cK (rv M 0 t) := by rw [Pk 14 8 t (by decide)]; exact ekt
  have pkx : mI P 14 8 x = cK (s_by c (rv M 0)) := by rw [Pk 14 8 x (by decide)]; exact ekx
  have itP : ∀ v f, it P v f = it N v f := by
    intro v f
    unfold it
    rw [Pk 14 8 f (by decide), Pk 13 6 f (by decide), Pk 13 7 f (by decide), Pk 13 8 f (by decide), Pk 13 9 f (by decide), hPd, rg_I]
  have itx : it P 0 x = s_by c (rv M 0) := by rw [itP]; exact b4'
  have itt : it P 0 t = rv M 0 t := by rw [← rvP, rv_r ht1]
  have done : ∀ (o : sG) (m : Option (me_M × Int32)), s_rel c (rv M 0) = o → (∃ M1 q, m = some (M1, q) ∧ rJ (jS w) (jT w) jO P M1 ∧ kv M1 ∧ rrP M1 w o q) → ∃ M1 q, m = some (M1, q) ∧ rJ (jS w) (jT w) jO M M1 ∧ kv M1 ∧ (s_unr c (rv M 0) → q = 10) ∧ (¬ s_unr c (rv M 0) → rrP M1 w (s_rel c (rv M 0)) q) := by
    intro o m ho hh
    obtain ⟨M1, q, a1, a2, a3, a4⟩ := hh
    exact ⟨M1, q, a1, rJ_trans GP a2, a3, fun z => absurd z nun, fun _ => by rw [ho]; exact a4⟩
  have bad : s_rel c (rv M 0) = .error 12 → ∃ M1 q, (some (P, (12 : Int32)) : Option (me_M × Int32)) = some (M1, q) ∧ rJ (jS w) (jT w) jO M M1 ∧ kv M1 ∧ (s_unr c (rv M 0) → q = 10) ∧ (¬ s_unr c (rv M 0) → rrP M1 w (s_rel c (rv M 0)) q) := fun hh => done _ _ hh ⟨P, 12, rfl, rJ_refl, kP, rfl⟩
  have full : w = 200 → ∀ go fall : sT, ∃ M1 q, (some (P, (0 : Int32)) : Option (me_M × Int32)) = some (M1, q) ∧ rJ (jS w) (jT w) jO P M1 ∧ kv M1 ∧ rrP M1 w (.ok (some go, some fall)) q := fun w2 go fall => ⟨P, 0, rfl, rJ_refl, kP, rfl, P68, fun z => by omega, fun _ => ⟨fun τ _ z => absurd z (by simp), fun τ _ z => absurd z (by simp)⟩⟩
  have w200 : nI w = 200 ↔ w = 200 := by
    constructor
    · intro z
      have := congrArg Int32.toInt z
      rw [nI_int (by omega), show (200 : Int32).toInt = 200 from rfl] at this
      omega
    · intro z; rw [z]; rfl
  rw [pi_isNumber hP ot, b2_some, pkt]
  -- not two numbers
  have b104 : ¬ (cK (rv M 0 t) = 1 ∧ cK (s_by c (rv M 0)) = 1) → ∃ M1 q, f_M_relate_b104 0 P (nI t) xx (d_nar c) (d_opn c) (nI (201 + w)) = some (M1, q) ∧ rJ (jS w) (jT w) jO M M1 ∧ kv M1 ∧ (s_unr c (rv M 0) → q = 10) ∧ (¬ s_unr c (rv M 0) → rrP M1 w (s_rel c (rv M 0)) q) := by
    intro nn
    have sr1 : s_rel c (rv M 0) = (if ¬ d_nar c = 0 then .error 12 else if (d_opn c = 0 ∨ d_opn c = 4) ∧ ((cK (rv M 0 t) = 8 ∧ c_zero (s_by c (rv M 0))) ∨ (c_zero (rv M 0 t) ∧ cK (s_by c (rv M 0)) = 8)) then .ok (some (s_dec (if cK (rv M 0 t) = 8 then cI (rv M 0 t) else cI (s_by c (rv M 0))) (if d_opn c = 0 then 1 else 7) (rv M 0)), some (s_dec (if cK (rv M 0 t) = 8 then cI (rv M 0 t) else cI (s_by c (rv M 0))) (if d_opn c = 0 then 7 else 1) (rv M 0))) else if cK (rv M 0 t) = 4 ∧ cK (s_by c (rv M 0)) = 5 then s_end (rv M 0 t) (d_opn c) (rv M 0) else if cK (rv M 0 t) = 5 ∧ cK (s_by c (rv M 0)) = 4 then s_end (s_by c (rv M 0)) (s_turn (d_opn c)) (rv M 0) else .error 12) := by
      unfold s_rel
      rw [e2, if_neg nn]
    unfold f_M_relate_b104
    by_cases gn : d_nar c = 0
    case neg =>
      rw [if_neg gn]
      exact bad (by rw [sr1, if_pos gn])
    rw [if_neg (show ¬ ¬ d_nar c = 0 from fun z => z gn)] at sr1
    rw [if_pos gn]
    -- the packet's end
    have b260 : ¬ ((d_opn c = 0 ∨ d_opn c = 4) ∧ ((cK (rv M 0 t) = 8 ∧ c_zero (s_by c (rv M 0))) ∨ (c_zero (rv M 0 t) ∧ cK (s_by c (rv M 0)) = 8))) → ∃ M1 q, f_M_relate_b260 0 P (nI t) xx (d_opn c) (nI (201 + w)) = some (M1, q) ∧ rJ (jS w) (jT w) jO M M1 ∧ kv M1 ∧ (s_unr c (rv M 0) → q = 10) ∧ (¬ s_unr c (rv M 0) → rrP M1 w (s_rel c (rv M 0)) q) := by
      intro nd
      rw [if_neg nd] at sr1
      -- with the pointer p at place y
      have b357 : ∀ (y : Nat) (yi fst : Int32) (way : Int32), ok yi y → y < 11 → cK (it P 0 y) = 4 → (way = 1 ∨ way = 2 ∨ way = 7 ∨ way = 8) → ((fst = 0 ∧ yi = xx ∧ way = s_turn (d_opn c)) ∨ (¬ fst = 0 ∧ yi = nI t ∧ way = d_opn c)) → (d_opn c = 1 ∨ d_opn c = 2 ∨ d_opn c = 7 ∨ d_opn c = 8) → ∃ M1 q, f_M_relate_b357 0 P (nI t) xx (d_opn c) (nI (201 + w)) fst = some (M1, q) ∧ rJ (jS w) (jT w) jO P M1 ∧ kv M1 ∧ rrP M1 w (s_end (it P 0 y) way (rv M 0)) q := by
        intro y yi fst way oy hy k4 hway hfst hord
        have se : ∃ go fall, s_end (it P 0 y) way (rv M 0) = .ok (some go, some fall) ∧ (way = 1 → go = s_room (cI (it P 0 y)) 0 (rv M 0) ∧ fall = s_room (cI (it P 0 y)) (cPl (it P 0 y)) (rv M 0)) ∧ (way = 2 → go = s_room (cI (it P 0 y)) 0 (rv M 0) ∧ fall = s_room (cI (it P 0 y)) (cPl (it P 0 y) + 1) (rv M 0)) ∧ (way = 7 → go = s_room (cI (it P 0 y)) (cPl (it P 0 y) + 1) (rv M 0) ∧ fall = s_room (cI (it P 0 y)) 0 (rv M 0)) ∧ (way = 8 → go = s_room (cI (it P 0 y)) (cPl (it P 0 y)) (rv M 0) ∧ fall = s_room (cI (it P 0 y)) 0 (rv M 0)) := by
          unfold s_end
          rcases hway with z | z | z | z
          · subst z
            exact ⟨_, _, if_pos rfl, fun _ => ⟨rfl, rfl⟩, fun z => absurd z (by decide), fun z => absurd z (by decide), fun z => absurd z (by decide)⟩
          · subst z
            exact ⟨_, _, (if_neg (by decide)).trans (if_pos rfl), fun z => absurd z (by decide), fun _ => ⟨rfl, rfl⟩, fun z => absurd z (by decide), fun z => absurd z (by decide)⟩
          · subst z
            exact ⟨_, _, (if_neg (by decide)).trans ((if_neg (by decide)).trans (if_pos rfl)), fun z => absurd z (by decide), fun z => absurd z (by decide), fun _ => ⟨rfl, rfl⟩, fun z => absurd z (by decide)⟩
          · subst z
            exact ⟨_, _, (if_neg (by decide)).trans ((if_neg (by decide)).trans ((if_neg (by decide)).trans (if_pos rfl))), fun z => absurd z (by decide), fun z => absurd z (by decide), fun z => absurd z (by decide), fun _ => ⟨rfl, rfl⟩⟩
        obtain ⟨go, fall, s0, s1, s2, s7, s8⟩ := se
        rw [s0]
        unfold f_M_relate_b357
        rw [P62]
        by_cases w2 : w = 200
        · rw [if_pos (w200.mpr w2)]
          exact full w2 go fall
        rw [if_neg (fun z => w2 (w200.mp z))]
        have w1 : w < 200 := by omega
        refine rtwo hP kP w1 P68 ?_
        intro A gA' kA' itA rvA rv0 A68
        have hA : ps_M A := rJ_ps gA' hP
        have k4' : mI P 14 8 y = 4 := k4
        have ePl : mI P 13 6 y = cPl (it P 0 y) := by
          unfold it
          rw [k4', cn4]
        have eI : mI P 13 8 y = cI (it P 0 y) := by
          unfold it
          rw [k4', cn4]
        have eA6 : mI A 13 6 y = cPl (it P 0 y) := by rw [← ePl]; exact (itA y (by omega) 0).2 13 6 iA6
        have eA8 : mI A 13 8 y = cI (it P 0 y) := by rw [← eI]; exact (itA y (by omega) 0).2 13 8 iA8
        -- one row is widened, the other left
        have wid : ∀ (r : Nat) (b : Int32), (r = 0 ∧ go = s_room (cI (it P 0 y)) 0 (rv M 0) ∧ fall = s_room (cI (it P 0 y)) b (rv M 0)) ∨ (r = 201 + w ∧ go = s_room (cI (it P 0 y)) b (rv M 0) ∧ fall = s_room (cI (it P 0 y)) 0 (rv M 0)) → ∃ M1, bd (f_M_widen A 0 (nI r) (cI (it P 0 y)) b) (fun M16 => some (M16, (0 : Int32))) = some (M1, 0) ∧ rJ (jS w) (jT w) jO P M1 ∧ kv M1 ∧ mI M1 1 0 68 = 3 ∧ (∀ i, i < 75 → rv M1 (201 + w) i = go i) ∧ (∀ i, i < 75 → rv M1 0 i = fall i) := by
          intro r b hr
          obtain ⟨B, c1', c2', c3', c4'⟩ := rroom (id := cI (it P 0 y)) (b := b) hA kA' (r := r) (by omega)
          rw [c1', bd_some]
          have B68 : mI B 1 0 68 = 3 := by rw [c2'.2.2.2.1 1 0 68 (fun z => by rcases z.1 with q | q <;> exact absurd q.1 (by decide)) (fun z => absurd z.1 (by decide))]; exact A68
          refine ⟨B, rfl, rJ_trans gA' (rJ_row (by omega) c2'), c3', B68, ?_, ?_⟩
          · intro i hi
            rcases hr with z | z
            · rw [rJ_rv (rJ_f (O := jO) c2') (fun f q y => by rw [z.1] at y; have := q.1; have := y.2; omega) (fun f q y => y) i hi, rvA i hi, z.2.1, room_0 hm i hi, rvP]
            · have := c4' i hi
              rw [z.1] at this
              rw [this, z.2.1]
              unfold s_room
              rw [rvA i hi, rvP]
          · intro i hi
            rcases hr with z | z
            · have := c4' i hi
              rw [z.1] at this
              rw [this, z.2.2]
              unfold s_room
              rw [rv0 i hi, rvP]
            · rw [rJ_rv (rJ_f (O := jO) c2') (fun f q y => by rw [z.1] at y; have := q.2; have := y.1; omega) (fun f q y => y) i hi, rv0 i hi, z.2.2, room_0 hm i hi, rvP]
        have b434 : ∃ M1, f_M_relate_b434 0 A (nI (201 + w)) yi way = some (M1, 0) ∧ rJ (jS w) (jT w) jO P M1 ∧ kv M1 ∧ mI M1 1 0 68 = 3 ∧ (∀ i, i < 75 → rv M1 (201 + w) i = go i) ∧ (∀ i, i < 75 → rv M1 0 i = fall i) := by
          unfold f_M_relate_b434 f_M_relate_b467
          rw [rs_50 hA, bd_some, rz_13_8 hA, oy.2.1, gd_pos (of_eq_true (ok_g oy)), st_eq, rs_48 hA, bd_some, rz_13_6 hA, gd_pos (of_eq_true (ok_g oy)), st_eq, eA6, eA8]
          rcases hway with z | z | z | z
          · rw [if_neg (by rw [z]; decide), if_neg (by rw [z]; decide), if_neg (by rw [z]; decide)]
            exact wid 0 _ (Or.inl ⟨rfl, (s1 z).1, (s1 z).2⟩)
          · rw [if_neg (by rw [z]; decide), if_pos z, if_neg (by rw [z]; decide)]
            exact wid 0 _ (Or.inl ⟨rfl, (s2 z).1, (s2 z).2⟩)
          · rw [if_pos z, if_pos z]
            exact wid (201 + w) _ (Or.inr ⟨rfl, (s7 z).1, (s7 z).2⟩)
          · rw [if_neg (by rw [z]; decide), if_neg (by rw [z]; decide), if_pos z]
            exact wid (201 + w) _ (Or.inr ⟨rfl, (s8 z).1, (s8 z).2⟩)
        unfold f_M_relate_b388
        rcases hfst with z | z
        · have e0 : (if d_opn c = 1 then f_M_relate_b434 0 A (nI (201 + w)) xx 7 else if d_opn c = 2 then f_M_relate_b434 0 A (nI (201 + w)) xx 8 else if d_opn c = 7 then f_M_relate_b434 0 A (nI (201 + w)) xx 1 else f_M_relate_b434 0 A (nI (201 + w)) xx 2) = f_M_relate_b434 0 A (nI (201 + w)) yi way := by
            rw [z.2.1, z.2.2]
            unfold s_turn
            rcases hord with q | q | q | q <;> rw [q] <;> rfl
          rw [if_pos z.1, if_pos z.1, e0]
          exact b434
        · rw [if_neg z.1, if_neg z.1, ← z.2.1, ← z.2.2]
          exact b434
      have b319 : ∀ ord : Int32, (¬ ord = 0 ↔ (d_opn c = 1 ∨ d_opn c = 2 ∨ d_opn c = 7 ∨ d_opn c = 8)) → (¬ (cK (rv M 0 t) = 4 ∧ cK (s_by c (rv M 0)) = 5)) → ∃ M1 q, f_M_relate_b319 0 P (nI t) xx (d_opn c) (nI (201 + w)) ord = some (M1, q) ∧ rJ (jS w) (jT w) jO M M1 ∧ kv M1 ∧ (s_unr c (rv M 0) → q = 10) ∧ (¬ s_unr c (rv M 0) → rrP M1 w (s_rel c (rv M 0)) q) := by
        intro ord hord n45
        rw [if_neg n45] at sr1
        unfold f_M_relate_b319 f_M_relate_b320
        by_cases o0 : ord = 0
        · have no : ¬ (d_opn c = 1 ∨ d_opn c = 2 ∨ d_opn c = 7 ∨ d_opn c = 8) := fun z => hord.mpr z o0
          rw [if_pos o0]
          refine bad ?_
          rw [sr1]
          by_cases g : cK (rv M 0 t) = 5 ∧ cK (s_by c (rv M 0)) = 4
          · rw [if_pos g]
            unfold s_end s_turn
            rw [if_neg (fun z => no (Or.inl z)), if_neg (fun z => no (Or.inr (Or.inl z))), if_neg (fun z => no (Or.inr (Or.inr (Or.inl z)))), if_neg (fun z => no (Or.inr (Or.inr (Or.inr z)))), if_neg (fun z => no (Or.inl z)), if_neg (fun z => no (Or.inr (Or.inl z))), if_neg (fun z => no (Or.inr (Or.inr (Or.inl z)))), if_neg (fun z => no (Or.inr (Or.inr (Or.inr z))))]
          · rw [if_neg g]
        · have yo := hord.mp o0
          rw [if_neg o0, if_pos rfl, rs_47 hP, bd_some, rz_14_8 hP, ot.2.1, gd_pos (of_eq_true (ok_g ot)), pkt]
          by_cases g5 : cK (rv M 0 t) = 5
          · rw [if_pos g5, b2'.2.1, gd_pos (of_eq_true (ok_g b2')), pkx]
            by_cases g4 : cK (s_by c (rv M 0)) = 4
            · rw [if_pos g4]
              have hx11 : x < 11 := by
                rcases b3' with z | z
                · exact z
                · rcases b5' with q | q
                  · have := q.2.1; omega
                  · exfalso
                    have : s_by c (rv M 0) = s_num (fn_ex (d_fn c)) := by unfold s_by; rw [if_pos q.2.2]
                    rw [this] at g4
                    exact absurd (show (1 : Int32) = 4 from g4) (by decide)
              refine done _ _ (by rw [sr1, if_pos ⟨g5, g4⟩, ← itx]) (b357 x xx 0 (s_turn (d_opn c)) b2' hx11 (by rw [itx]; exact g4) ?_ (Or.inl ⟨rfl, rfl, rfl⟩) yo)
              unfold s_turn
              rcases yo with q | q | q | q <;> rw [q] <;> decide
            · rw [if_neg g4]
              exact bad (by rw [sr1, if_neg (fun z => g4 z.2)])
          · rw [if_neg g5]
            exact bad (by rw [sr1, if_neg (fun z => g5 z.1)])
      have b291 : ∀ ord : Int32, (¬ ord = 0 ↔ (d_opn c = 1 ∨ d_opn c = 2 ∨ d_opn c = 7 ∨ d_opn c = 8)) → ∃ M1 q, f_M_relate_b291 0 P (nI t) xx (d_opn c) (nI (201 + w)) ord = some (M1, q) ∧ rJ (jS w) (jT w) jO M M1 ∧ kv M1 ∧ (s_unr c (rv M 0) → q = 10) ∧ (¬ s_unr c (rv M 0) → rrP M1 w (s_rel c (rv M 0)) q) := by
        intro ord hord
        unfold f_M_relate_b291
        rw [rs_47 hP, bd_some, rz_14_8 hP, ot.2.1, gd_pos (of_eq_true (ok_g ot)), pkt]
        by_cases g4 : cK (rv M 0 t) = 4
        · rw [if_pos g4, b2'.2.1, gd_pos (of_eq_true (ok_g b2')), pkx]
          by_cases g5 : cK (s_by c (rv M 0)) = 5
          · rw [if_pos g5]
            rw [if_pos ⟨g4, g5⟩] at sr1
            unfold f_M_relate_b320
            by_cases o0 : ord = 0
            · have no : ¬ (d_opn c = 1 ∨ d_opn c = 2 ∨ d_opn c = 7 ∨ d_opn c = 8) := fun z => hord.mpr z o0
              rw [if_pos o0]
              refine bad ?_
              rw [sr1]
              unfold s_end
              rw [if_neg (fun z => no (Or.inl z)), if_neg (fun z => no (Or.inr (Or.inl z))), if_neg (fun z => no (Or.inr (Or.inr (Or.inl z)))), if_neg (fun z => no (Or.inr (Or.inr (Or.inr z))))]
            · have yo := hord.mp o0
              rw [if_neg o0, if_neg (by decide)]
              exact done _ _ (by rw [sr1, ← itt]) (b357 t (nI t) 1 (d_opn c) ot ht1 (by rw [itt]; exact g4) yo (Or.inr ⟨by decide, rfl, rfl⟩) yo)
          · rw [if_neg g5]
            exact b319 ord hord (fun z => g5 z.2)
        · rw [if_neg g4]
          exact b319 ord hord (fun z => g4 z.1)
      unfold f_M_relate_b260 f_M_relate_b286
      by_cases q1 : d_opn c = 1
      · rw [if_pos q1]; exact b291 1 ⟨fun _ => Or.inl q1, fun _ => by decide⟩
      rw [if_neg q1]
      by_cases q2 : d_opn c = 2
      · rw [if_pos q2]; exact b291 1 ⟨fun _ => Or.inr (Or.inl q2), fun _ => by decide⟩
      rw [if_neg q2]
      by_cases q7 : d_opn c = 7
      · rw [if_pos q7]; exact b291 1 ⟨fun _ => Or.inr (Or.inr (Or.inl q7)), fun _ => by decide⟩
      rw [if_neg q7]
      by_cases q8 : d_opn c = 8
      · rw [if_pos q8]; exact b291 1 ⟨fun _ => Or.inr (Or.inr (Or.inr q8)), fun _ => by decide⟩
      rw [if_neg q8]
      exact b291 0 ⟨fun z => absurd rfl z, fun z => by rcases z with z | z | z | z <;> first | exact absurd z q1 | exact absurd z q2 | exact absurd z q7 | exact absurd z q8⟩
    -- it may be there: decided
    have b177 : (d_opn c = 0 ∨ d_opn c = 4) → ((cK (rv M 0 t) = 8 ∧ c_zero (s_by c (rv M 0))) ∨ (c_zero (rv M 0 t) ∧ cK (s_by c (rv M 0)) = 8)) → ∃ M1 q, f_M_relate_b177 0 P (nI t) xx (d_opn c) (nI (201 + w)) = some (M1, q) ∧ rJ (jS w) (jT w) jO M M1 ∧ kv M1 ∧ (s_unr c (rv M 0) → q = 10) ∧ (¬ s_unr c (rv M 0) → rrP M1 w (s_rel c (rv M 0)) q) := by
      intro o04 hz
      rw [if_pos ⟨o04, hz⟩] at sr1
      obtain ⟨id, hid⟩ : ∃ id, id = (if cK (rv M 0 t) = 8 then cI (rv M 0 t) else cI (s_by c (rv M 0))) := ⟨_, rfl⟩
      rw [← hid] at sr1
      have b200 : ∀ (y : Nat) (yi : Int32), ok yi y → mI P 13 8 y = id → ∃ M1 q, f_M_relate_b200 0 P (d_opn c) (nI (201 + w)) yi 8 = some (M1, q) ∧ rJ (jS w) (jT w) jO M M1 ∧ kv M1 ∧ (s_unr c (rv M 0) → q = 10) ∧ (¬ s_unr c (rv M 0) → rrP M1 w (s_rel c (rv M 0)) q) := by
        intro y yi oy hyi
        refine done _ _ sr1 ?_
        unfold f_M_relate_b200
        rw [rz_13_8 hP, oy.2.1, gd_pos (of_eq_true (ok_g oy)), st_eq, P62, hyi]
        by_cases w2 : w = 200
        · rw [if_pos (w200.mpr w2)]
          exact full w2 _ _
        rw [if_neg (fun z => w2 (w200.mp z))]
        have w1 : w < 200 := by omega
        refine rtwo hP kP w1 P68 ?_
        intro A gA' kA' itA rvA rv0 A68
        have hA : ps_M A := rJ_ps gA' hP
        unfold f_M_relate_b234
        have two : ∀ (r1 r2 : Nat) (g1 g2 : sT), ((r1 = 0 ∧ r2 = 201 + w) ∨ (r1 = 201 + w ∧ r2 = 0)) → ∃ B C, f_M_decide A 0 (nI r1) id 1 = some B ∧ f_M_decide B 0 (nI r2) id 0 = some C ∧ rJ (jS w) (jT w) jO P C ∧ kv C ∧ mI C 1 0 68 = 3 ∧ (∀ i, i < 75 → rv C r1 i = s_dec id 1 (rv M 0) i) ∧ (∀ i, i < 75 → rv C r2 i = s_dec id 7 (rv M 0) i) := by
          intro r1 r2 g1 g2 hr
          obtain ⟨B, c1', c2', c3', c4'⟩ := rdec (id := id) (z := 1) (kk := 1) hA kA' (r := r1) (by omega) (Or.inr ⟨by decide, rfl⟩)
          have hB : ps_M B := rf_ps c2' hA
          obtain ⟨C, d1', d2', d3', d4'⟩ := rdec (id := id) (z := 0) (kk := 7) hB c3' (r := r2) (by omega) (Or.inl ⟨rfl, rfl⟩)
          have B68 : mI B 1 0 68 = 3 := by rw [c2'.2.2.2.1 1 0 68 (fun z => by rcases z.1 with q | q <;> exact absurd q.1 (by decide)) (fun z => absurd z.1 (by decide))]; exact A68
          have C68 : mI C 1 0 68 = 3 := by rw [d2'.2.2.2.1 1 0 68 (fun z => by rcases z.1 with q | q <;> exact absurd q.1 (by decide)) (fun z => absurd z.1 (by decide))]; exact B68
          have base : ∀ r, r = 0 ∨ r = 201 + w → ∀ i, i < 75 → rv A r i = rv M 0 i := by
            intro r hr2 i hi
            rcases hr2 with z | z
            · rw [z, rv0 i hi, rvP]
            · rw [z, rvA i hi, rvP]
          refine ⟨B, C, c1', d1', rJ_trans gA' (rJ_trans (rJ_row (by omega) c2') (rJ_row (by omega) d2')), d3', C68, ?_, ?_⟩
          · intro i hi
            rw [rJ_rv (rJ_f (O := jO) d2') (fun f q y => by have := q.1; have := q.2; have := y.1; have := y.2; omega) (fun f q y => y) i hi, c4' i hi]
            unfold s_dec
            rw [base r1 (by omega) i hi]
          · intro i hi
            rw [d4' i hi]
            unfold s_dec
            rw [rJ_rv (rJ_f (O := jO) c2') (fun f q y => by have := q.1; have := q.2; have := y.1; have := y.2; omega) (fun f q y => y) i hi, base r2 (by omega) i hi]
        by_cases o0 : d_opn c = 0
        · obtain ⟨B, C, q1, q2, q3, q4, q5, q6, q7⟩ := two (201 + w) 0 (rv M 0) (rv M 0) (Or.inr ⟨rfl, rfl⟩)
          rw [if_pos o0, q1, bd_some, if_pos o0, show f_M_decide B 0 0 id 0 = some C from q2, bd_some, if_pos o0, if_pos o0]
          exact ⟨C, rfl, q3, q4, q5, q6, q7⟩
        · obtain ⟨B, C, q1, q2, q3, q4, q5, q6, q7⟩ := two 0 (201 + w) (rv M 0) (rv M 0) (Or.inl ⟨rfl, rfl⟩)
          rw [if_neg o0, show f_M_decide A 0 0 id 1 = some B from q1, bd_some, if_neg o0, q2, bd_some, if_neg o0, if_neg o0]
          exact ⟨C, rfl, q3, q4, q5, q7, q6⟩
      unfold f_M_relate_b177
      rw [rs_50 hP, bd_some, rs_47 hP, bd_some, rz_14_8 hP, ot.2.1, gd_pos (of_eq_true (ok_g ot)), pkt]
      by_cases g8 : cK (rv M 0 t) = 8
      · rw [if_pos g8]
        refine b200 t (nI t) ot ?_
        rw [hid, if_pos g8, ← itt, (dec_it (by rw [pkt]; exact g8)).2.1]
      · rw [if_neg g8]
        have x8 : cK (s_by c (rv M 0)) = 8 := hz.elim (fun z => absurd z.1 g8) (fun z => z.2)
        refine b200 x xx b2' ?_
        rw [hid, if_neg g8, ← itx, (dec_it (by rw [pkx]; exact x8)).2.1]
    have zx : ∀ y yi, ok yi y → f_M_isZero P 0 yi = some (P, if c_zero (it P 0 y) then 1 else 0) := by
      intro y yi oy
      rw [pi_isZero hP oy]
      have e : (mI P 14 8 y = 1 ∧ (rg P y).2.1 = 0 ∧ (rg P y).1 = 0) ↔ c_zero (it P 0 y) := by
        constructor
        · intro z
          have ex : cX (it P 0 y) = rg P y := it_x (Or.inl z.1)
          exact ⟨z.1, by rw [ex]; exact z.2.1, by rw [ex]; exact z.2.2⟩
        · intro z
          have ex : cX (it P 0 y) = rg P y := it_x (Or.inl z.1)
          rw [← ex]
          exact z
      by_cases g : c_zero (it P 0 y)
      · rw [if_pos g, if_pos (e.mpr g)]
      · rw [if_neg g, if_neg (fun z => g (e.mp z))]
    have b128 : ∀ s0 : Int32, (¬ s0 = 0 ↔ (d_opn c = 0 ∨ d_opn c = 4)) → ∃ M1 q, f_M_relate_b128 0 P (nI t) xx (d_opn c) (nI (201 + w)) s0 = some (M1, q) ∧ rJ (jS w) (jT w) jO M M1 ∧ kv M1 ∧ (s_unr c (rv M 0) → q = 10) ∧ (¬ s_unr c (rv M 0) → rrP M1 w (s_rel c (rv M 0)) q) := by
      intro s0 hs
      unfold f_M_relate_b128
      by_cases g0 : s0 = 0
      · rw [if_pos g0]
        exact b260 (fun z => hs.mpr z.1 g0)
      have o04 := hs.mp g0
      rw [if_neg g0, rs_47 hP, bd_some, rz_14_8 hP, ot.2.1, gd_pos (of_eq_true (ok_g ot)), pkt]
      have b156 : ¬ (cK (rv M 0 t) = 8 ∧ c_zero (s_by c (rv M 0))) → ∃ M1 q, f_M_relate_b156 0 P (nI t) xx (d_opn c) (nI (201 + w)) = some (M1, q) ∧ rJ (jS w) (jT w) jO M M1 ∧ kv M1 ∧ (s_unr c (rv M 0) → q = 10) ∧ (¬ s_unr c (rv M 0) → rrP M1 w (s_rel c (rv M 0)) q) := by
        intro n1
        unfold f_M_relate_b156
        rw [rs_47 hP, bd_some, rz_14_8 hP, b2'.2.1, gd_pos (of_eq_true (ok_g b2')), pkx]
        by_cases g8 : cK (s_by c (rv M 0)) = 8
        · rw [if_pos g8, zx t (nI t) ot, b2_some, itt]
          by_cases gz : c_zero (rv M 0 t)
          · rw [if_pos gz, if_neg (by decide)]
            exact b177 o04 (Or.inr ⟨gz, g8⟩)
          · rw [if_neg gz, if_pos rfl]
            exact b260 (fun z => z.2.elim n1 (fun q => gz q.1))
        · rw [if_neg g8]
          exact b260 (fun z => z.2.elim n1 (fun q => g8 q.2))
      by_cases g8 : cK (rv M 0 t) = 8
      · rw [if_pos g8, zx x xx b2', b2_some, itx]
        by_cases gz : c_zero (s_by c (rv M 0))
        · rw [if_pos gz, if_neg (by decide)]
          exact b177 o04 (Or.inl ⟨g8, gz⟩)
        · rw [if_neg gz, if_pos rfl]
          exact b156 (fun z => gz z.2)
      · rw [if_neg g8]
        exact b156 (fun z => g8 z.1)
    unfold f_M_relate_b123
    by_cases o0 : d_opn c = 0
    · rw [if_pos o0]; exact b128 1 ⟨fun _ => Or.inl o0, fun _ => by decide⟩
    rw [if_neg o0]
    by_cases o4 : d_opn c = 4
    · rw [if_pos o4]; exact b128 1 ⟨fun _ => Or.inr o4, fun _ => by decide⟩
    rw [if_neg o4]
    exact b128 0 ⟨fun z => absurd rfl z, fun z => absurd z (fun q => q.elim o0 o4)⟩
  by_cases t1 : cK (rv M 0 t) = 1
  · rw [if_pos t1, if_neg (by decide), pi_isNumber hP b2', b2_some, pkx]
    by_cases x1 : cK (s_by c (rv M 0)) = 1
    · rw [if_pos x1, if_neg (by decide)]
      have hx : (d_rf c = 0 ∧ x = 30078) ∨ (¬ d_rf c = 0 ∧ x = d_fi c ∧ d_fi c < 11) := by
        rcases b5' with z | z
        · exact Or.inr ⟨z.2.2, z.2.1, hf⟩
        · exact Or.inl ⟨z.2.2, z.2.1⟩
      obtain ⟨M1, a1, a2, a3, a4⟩ := rnums hP kP hw P62 P68 ht1 e2 b2' hx (by rw [pkt]; exact t1) (by rw [pkx]; exact x1) hop2 eop
      rw [a1, bd_some]
      refine done _ _ rfl ⟨M1, 0, rfl, a2, a3, ?_⟩
      have eX : cX (s_by c (rv M 0)) = rg P x := by rw [← itx]; exact it_x (Or.inl (by rw [itx]; exact x1))
      have eT : cX (rv M 0 t) = rg P t := by rw [← itt]; exact it_x (Or.inl (by rw [itt]; exact t1))
      have e3 : (d_opn c).toNatClampNeg = op := by rw [eop, nI_tn (by omega)]
      have sr : s_rel c (rv M 0) = (if ¬ d_rf c = 0 ∧ d_ti c = d_fi c then .ok (some (rv P 0), some (rv P 0)) else .ok ((fn_tell (d_opn c) (d_nar c) (rg P t) (rg P x)).map (s_tn c (rv P 0)), (fn_tell (fz_k op) (d_nar c) (rg P t) (rg P x)).map (s_tn c (rv P 0)))) := by
        unfold s_rel
        rw [rvP, if_pos (show cK (rv M 0 (d_ti c)) = 1 ∧ cK (s_by c (rv M 0)) = 1 from ⟨by rw [e2]; exact t1, x1⟩), e3]
        rw [show cX (rv M 0 (d_ti c)) = rg P t by rw [e2]; exact eT, eX]
      rw [sr]
      exact a4
    · rw [if_neg x1, if_pos rfl]
      exact b104 (fun z => x1 z.2)
  · rw [if_neg t1, if_pos rfl]
    exact b104 (fun z => t1 z.1)
end RV
