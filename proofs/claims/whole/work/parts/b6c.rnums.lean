/-! PURE: the reference relates numbers. -/
theorem t_con : ∀ k, k < 11 → f_M_contrary (nI k) = some (fz_k k) ∧ rel_ok (nI k) ∧ rel_ok (fz_k k) := by decide +kernel
/-- what a relation answers: w rows wait -/
def rrP (M1 : me_M) (w : Nat) (o : sG) (q : Int32) : Prop := match o with
  | .error f => q = f
  | .ok p => q = 0 ∧ mI M1 1 0 68 = nI ((if p.1.isSome then 1 else 0) + (if p.2.isSome then 2 else 0)) ∧ (w < 200 → (∀ τ, p.1 = some τ → ∀ i, i < 75 → rv M1 (201 + w) i = τ i) ∧ (∀ τ, p.2 = some τ → ∀ i, i < 75 → rv M1 0 i = τ i)) ∧ (w = 200 → (∀ τ, p.1 = some τ → p.2 = none → ∀ i, i < 75 → rv M1 0 i = τ i) ∧ (∀ τ, p.2 = some τ → p.1 = none → ∀ i, i < 75 → rv M1 0 i = τ i))
abbrev jS (w : Nat) : Nat → Prop := fun f => f < 75 ∨ 30075 ≤ f ∨ (w < 200 ∧ iR (201 + w) f)
abbrev jT (w : Nat) : Nat → Prop := fun f => w < 200 ∧ iW (201 + w) f
abbrev jO : Nat → Prop := fun f => f = 68
section RT
variable {M M1 M2 N : me_M} {c : Int64}
theorem it_n {x : Nat} {z : fn_N} {w : Int32} (h : mI M 14 8 x = 1) (g : rg M x = z) : it M w x = s_num z := by
  unfold it
  rw [h, g]
  unfold cn
  simp
theorem rho_r {t : Nat} (h : t < 11) : rho t = t := by unfold rho; rw [if_pos h]
theorem rv_n {r t : Nat} (h : t < 11) : rv M r t = it M 0 (75 * r + t) := by
  unfold rv
  rw [rho_r h, if_pos h]
theorem rv_1 {f r : Nat} {v : Int32} : rv (wI M 1 0 f v) r = rv M r := by
  have e : ∀ k j x, ¬ k = 1 → mI (wI M 1 0 f v) k j x = mI M k j x := fun k j x hk => by rw [pI_I, if_neg (fun z => hk z.1)]
  funext i
  unfold rv it
  rw [rg_I, e 14 8 _ (by decide), e 13 6 _ (by decide), e 13 7 _ (by decide), e 13 8 _ (by decide), e 13 9 _ (by decide), e 13 10 _ (by decide)]
theorem s_tn_c {σ τ : sT} {q : fn_N × fn_N} (h : ∀ i, i < 75 → σ i = τ i) : ∀ i, i < 75 → s_tn c σ q i = s_tn c τ q i := by
  intro i hi
  unfold s_tn up
  by_cases g : d_rf c = 0
  · rw [if_pos g, if_pos g]
    show (if i = d_ti c then s_num q.1 else σ i) = if i = d_ti c then s_num q.1 else τ i
    rw [h i hi]
  · rw [if_neg g, if_neg g]
    show (if i = d_fi c then s_num q.2 else if i = d_ti c then s_num q.1 else σ i) = if i = d_fi c then s_num q.2 else if i = d_ti c then s_num q.1 else τ i
    rw [h i hi]
/-- numbers of registers t and f of row r are changed -/
theorem rv_up2 {r t : Nat} (ht : t < 11) (hr : r < 401) {j : Nat} {q : fn_N × fn_N} (hj : (d_rf c = 0 ∧ 30077 < j) ∨ (¬ d_rf c = 0 ∧ j = 75 * r + d_fi c ∧ d_fi c < 11 ∧ ¬ t = d_fi c)) (hq : rq (fun k => k = 30075 ∨ k = 30076 ∨ k = 75 * r + t ∨ k = j) N M1) (k1 : mI N 14 8 (75 * r + t) = 1) (k2 : ¬ d_rf c = 0 → mI N 14 8 j = 1) (e1 : rg M1 (75 * r + t) = q.1) (e2 : rg M1 j = q.2) (et : d_ti c = t) : ∀ i, i < 75 → rv M1 r i = s_tn c (rv N r) q i := by
  intro i hi
  have fr1 : rf (fun k => k = 30075 ∨ k = 30076 ∨ k = 75 * r + t ∨ k = j) mT N M1 := rf_q hq
  have eT : rv M1 r t = s_num q.1 := by rw [rv_n ht]; exact it_n (by rw [hq.1]; exact k1) e1
  have other : ¬ i = t → (¬ d_rf c = 0 → ¬ i = d_fi c) → rv M1 r i = rv N r i := by
    intro n1 n2
    have hl := rho_lt hi
    have hn : ¬ (75 * r + rho i = 30075 ∨ 75 * r + rho i = 30076 ∨ 75 * r + rho i = 75 * r + t ∨ 75 * r + rho i = j) := by
      have inj : ∀ a b, a < 75 → b < 11 → rho a = b → a = b := by
        intro a b ha hb e
        unfold rho at e
        split at e <;> omega
      rintro (z | z | z | z)
      · omega
      · omega
      · exact n1 (inj i t hi ht (by omega))
      · rcases hj with y | y
        · omega
        · exact n2 y.1 (inj i (d_fi c) hi y.2.2.1 (by omega))
    unfold rv
    rw [rf_it fr1 hn, rf_w fr1]
  unfold s_tn
  rw [et]
  rcases hj with y | y
  · rw [if_pos y.1]
    unfold up
    by_cases g : i = t
    · rw [if_pos g, g, eT]
    · rw [if_neg g, other g (fun z => absurd y.1 z)]
  · rw [if_neg y.1]
    have eF : rv M1 r (d_fi c) = s_num q.2 := by
      rw [rv_n y.2.2.1, ← y.2.1]
      exact it_n (by rw [hq.1]; exact k2 y.1) e2
    unfold up
    by_cases g : i = d_fi c
    · rw [if_pos g, g, eF]
    · rw [if_neg g]
      by_cases g2 : i = t
      · rw [if_pos g2, g2, eT]
      · rw [if_neg g2, other g2 (fun _ => g)]
theorem rnums (h : ps_M N) (hk : kv N) {w t x : Nat} {xx : Int32} (hw : w ≤ 200) (h62 : mI N 1 0 62 = nI w) (h68 : mI N 1 0 68 = 3) (ht : t < 11) (et : d_ti c = t) (ox : ok xx x) (hx : (d_rf c = 0 ∧ x = 30078) ∨ (¬ d_rf c = 0 ∧ x = d_fi c ∧ d_fi c < 11)) (k1 : mI N 14 8 t = 1) (k2 : mI N 14 8 x = 1) {op : Nat} (hop : op < 11) (eop : d_opn c = nI op) : ∃ M1, f_M_numbers N 0 (d_opn c) (nI t) xx (d_nar c) (nI (201 + w)) = some M1 ∧ rJ (jS w) (jT w) jO N M1 ∧ kv M1 ∧ rrP M1 w (if ¬ d_rf c = 0 ∧ d_ti c = d_fi c then .ok (some (rv N 0), some (rv N 0)) else .ok ((fn_tell (d_opn c) (d_nar c) (rg N t) (rg N x)).map (s_tn c (rv N 0)), (fn_tell (fz_k op) (d_nar c) (rg N t) (rg N x)).map (s_tn c (rv N 0)))) 0 := by
  obtain ⟨c1, c2, c3⟩ := t_con op hop
  have ot : ok (nI t) t := ok_n (by omega)
  have exx : xx = nI x := by
    apply Int32.toInt_inj.mp
    have hx3 := ox
    unfold ok at hx3
    have : xx.toInt = (x : Int) := by
      have a := hx3.1
      have b := hx3.2.1
      rw [Int32.lt_iff_toInt_lt, show (0 : Int32).toInt = 0 from rfl] at a
      have c : xx.toInt.toNat = x := b
      omega
    rw [this, nI_int (by omega)]
  have eq_iff : nI t = xx ↔ (¬ d_rf c = 0 ∧ d_ti c = d_fi c) := by
    rw [exx, et]
    have inj : nI t = nI x ↔ t = x := by
      constructor
      · intro e
        have := congrArg Int32.toInt e
        rw [nI_int (by omega), nI_int (by have := ox.2.2; omega)] at this
        omega
      · intro e; rw [e]
    rw [inj]
    rcases hx with z | z
    · constructor
      · intro e; omega
      · intro e; exact absurd z.1 e.1
    · rw [z.2.1]
      exact ⟨fun e => ⟨z.1, e⟩, fun e => e.2⟩
  have x8_iff : xx = 30078 ↔ x = 30078 := by
    rw [exx, show (30078 : Int32) = nI 30078 from rfl]
    constructor
    · intro e
      have := congrArg Int32.toInt e
      rw [nI_int (by have := ox.2.2; omega), nI_int (by decide)] at this
      omega
    · intro e; rw [e]
  have cond : ¬ (¬ d_rf c = 0 ∧ d_ti c = d_fi c) → ¬ t = x ∧ ((d_rf c = 0 ∧ 30077 < x) ∨ (¬ d_rf c = 0 ∧ x = 75 * 0 + d_fi c ∧ d_fi c < 11 ∧ ¬ t = d_fi c)) := by
    intro z
    rcases hx with y | y
    · exact ⟨by omega, Or.inl ⟨y.1, by omega⟩⟩
    · have ne : ¬ t = d_fi c := fun e => z ⟨y.1, et.trans e⟩
      exact ⟨by rw [y.2.1]; exact ne, Or.inr ⟨y.1, by omega, y.2.2, ne⟩⟩
  have hx2 : x < 30075 ∨ 30077 < x := by rcases hx with y | y <;> omega
  have kN : ∀ P : me_M, mI P 14 8 = mI N 14 8 → kv P := fun P e => kv_eq hk (fun q => by rw [e])
  unfold f_M_numbers
  rw [h62]
  by_cases w2 : w = 200
  · -- all rows wait
    rw [if_pos (by rw [w2]; rfl), pm_copy h ot ok_S, bd_some, pm_copy (ps_t h) ox ok_U, bd_some, rg_L (by rcases hx with y | y <;> omega)]
    obtain ⟨A, hA⟩ : ∃ A, A = rt (rt N 30079 (rg N t)) 30080 (rg N x) := ⟨_, rfl⟩
    have fA : rq (fun k => 30075 ≤ k ∧ ¬ k = 30078) N A := by rw [hA]; exact rq_trans (rq_t ⟨by decide, by decide⟩) (rq_t ⟨by decide, by decide⟩)
    have hpA : ps_M A := rq_ps fA h
    have A1 : rg A 30079 = rg N t := by rw [hA, rg_L (by decide), rg_t]
    have A2 : rg A 30080 = rg N x := by rw [hA, rg_t]
    rw [← hA]
    -- copies again, from any P that differs in scratch
    have b52 : ∀ (P : me_M) (s0 : Int32), rq (fun k => 30075 ≤ k ∧ ¬ k = 30078) N P → f_M_numbers_b52 0 (d_opn c) (nI t) xx (d_nar c) P s0 = (if nI t = xx then f_M_numbers_b94 0 (d_opn c) (nI t) xx (d_nar c) (rt (rt P 30079 (rg N t)) 30080 (rg N x)) s0 else bd (f_M_contrary (d_opn c)) (fun r28 => b2 (f_M_holds (rt (rt P 30079 (rg N t)) 30080 (rg N x)) 0 r28 30079 30080 (d_nar c)) (fun M29 r30 => if r30 = 0 then f_M_numbers_b99 0 (d_opn c) (nI t) xx (d_nar c) M29 s0 0 else f_M_numbers_b94 0 (d_opn c) (nI t) xx (d_nar c) M29 s0))) := by
      intro P s0 g
      have hP : ps_M P := rq_ps g h
      unfold f_M_numbers_b52
      rw [pm_copy hP ot ok_S, bd_some, pm_copy (ps_t hP) ox ok_U, bd_some, rg_L (by rcases hx with y | y <;> omega), rq_g g (show ¬ (30075 ≤ t ∧ ¬ t = 30078) by omega), rq_g g (show ¬ (30075 ≤ x ∧ ¬ x = 30078) by rcases hx with y | y <;> omega)]
    have rJq : ∀ {P : me_M}, rq (fun k => 30075 ≤ k ∧ ¬ k = 30078) N P → rJ (jS w) (jT w) jO N P := fun g => rJ_mono (rJ_f (rf_q (T := mT) g)) (fun i z => Or.inr (Or.inl z.1)) (fun i z => z.elim) (fun i z => z)
    -- the last: ways are known
    have b122 : ∀ (P : me_M) (go fall : Option (fn_N × fn_N)), rq (fun k => 30075 ≤ k ∧ ¬ k = 30078) N P → (nI t = xx → go.isSome = true ∧ fall.isSome = true) → (¬ nI t = xx → go = fn_tell (d_opn c) (d_nar c) (rg N t) (rg N x) ∧ fall = fn_tell (fz_k op) (d_nar c) (rg N t) (rg N x)) → ∃ M1, f_M_numbers_b122 0 (d_opn c) (nI t) xx (d_nar c) P (if fall.isSome then 2 else 0) (if go.isSome then 1 else 0) 0 = some M1 ∧ rJ (jS w) (jT w) jO N M1 ∧ kv M1 ∧ mI M1 1 0 68 = nI ((if go.isSome then 1 else 0) + (if fall.isSome then 2 else 0)) ∧ (∀ q, go = some q → fall = none → ∀ i, i < 75 → rv M1 0 i = s_tn c (rv N 0) q i) ∧ (∀ q, fall = some q → go = none → ∀ i, i < 75 → rv M1 0 i = s_tn c (rv N 0) q i) := by
      intro P go fall gP hs hn
      have hP : ps_M P := rq_ps gP h
      have IP : mI P = mI N := gP.1
      unfold f_M_numbers_b122
      rw [st_eq]
      obtain ⟨v, hv⟩ : ∃ v : Int32, v = (if go.isSome then 1 else 0) + (if fall.isSome then 2 else 0) := ⟨_, rfl⟩
      have hv2 : v = nI ((if go.isSome then 1 else 0) + (if fall.isSome then 2 else 0)) := by
        rw [hv]
        cases go.isSome <;> cases fall.isSome <;> rfl
      rw [← hv, pI_same]
      obtain ⟨Q, hQ⟩ : ∃ Q, Q = wI P 1 0 68 v := ⟨_, rfl⟩
      rw [← hQ]
      have Q68 : mI Q 1 0 68 = v := by rw [hQ, pI_same]
      have gQ : rJ (jS w) (jT w) jO N Q := by rw [hQ]; exact rJ_trans (rJq gP) (rJ_o rfl)
      have kQ : ∀ q, mI Q 14 8 q = mI N 14 8 q := by
        intro q
        rw [hQ, pI_I, if_neg (fun z => absurd z.1 (by decide)), IP]
      have hpQ : ps_M Q := rJ_ps gQ h
      have rQ : ∀ i, ¬ (30075 ≤ i ∧ ¬ i = 30078) → rg Q i = rg N i := by
        intro i hi
        rw [hQ, rg_I]
        exact rq_g gP hi
      have rvQ : ∀ i, i < 75 → rv Q 0 i = rv N 0 i := by
        intro i hi
        rw [hQ, rv_1]
        exact rJ_rv (rJ_f (O := jO) (rf_q (T := mT) gP)) (fun f z y => by have := z.2; omega) (fun f z y => y) i hi
      have tell : ∀ (o : Int32) (g : Option (fn_N × fn_N)), rel_ok o → ¬ nI t = xx → g = fn_tell o (d_nar c) (rg N t) (rg N x) → ∃ M1 z, f_M_holds Q 0 o (nI t) xx (d_nar c) = some (M1, z) ∧ rJ (jS w) (jT w) jO N M1 ∧ kv M1 ∧ mI M1 1 0 68 = v ∧ (∀ q, g = some q → ∀ i, i < 75 → rv M1 0 i = s_tn c (rv N 0) q i) := by
        intro o g ho ne hg
        obtain ⟨nt, cc⟩ := cond (fun z => ne (eq_iff.mpr z))
        obtain ⟨M1, z, d1, d2, d3⟩ := pm_holds hpQ (op := o) (nar := d_nar c) ot ox (by omega) hx2 nt ho
        rw [rQ t (by omega), rQ x (by rcases hx with y | y <;> omega), ← hg] at d3
        refine ⟨M1, z, d1, rJ_trans gQ (rJ_mono (rJ_f (rf_q (T := mT) d2)) (fun i z => ?_) (fun i z => z.elim) (fun i z => z)), kv_eq hk (fun q => by rw [d2.1]; exact kQ q), by rw [d2.1]; exact Q68, ?_⟩
        · rcases z with z | z | z | z
          · exact Or.inr (Or.inl (by omega))
          · exact Or.inr (Or.inl (by omega))
          · exact Or.inl (by omega)
          · rcases hx with y | y
            · exact Or.inr (Or.inl (by omega))
            · exact Or.inl (by omega)
        · intro q hq2 i hi
          rw [hq2] at d3
          have := rv_up2 (c := c) (N := Q) (M1 := M1) (r := 0) (t := t) ht (by decide) (j := x) (q := q) cc (by rw [Nat.mul_zero, Nat.zero_add]; exact d2) (by rw [Nat.mul_zero, Nat.zero_add, kQ]; exact k1) (fun _ => by rw [kQ]; exact k2) (by rw [Nat.mul_zero, Nat.zero_add]; exact d3.2.1) d3.2.2 et i hi
          rw [this]
          exact s_tn_c rvQ i hi
      have vc : (v = 1 ↔ (go.isSome = true ∧ fall.isSome = false)) ∧ (v = 2 ↔ (go.isSome = false ∧ fall.isSome = true)) := by
        rw [hv]
        cases go.isSome <;> cases fall.isSome <;> decide
      unfold f_M_numbers_b145
      by_cases v1 : v = 1
      · obtain ⟨s1, s2⟩ := vc.1.mp v1
        have ne : ¬ nI t = xx := fun z => by rw [(hs z).2] at s2; exact absurd s2 (by decide)
        obtain ⟨M1, z, d1, d2, d3, d4, d5⟩ := tell (d_opn c) go (by rw [eop]; exact c2) ne (hn ne).1
        rw [if_pos v1, d1, b2_some, d4, if_neg (by rw [v1]; decide)]
        refine ⟨M1, rfl, d2, d3, d4.trans hv2, fun q hq2 _ => d5 q hq2, fun q _ hg => ?_⟩
        rw [hg] at s1
        exact absurd s1 (by decide)
      · rw [if_neg v1, Q68]
        by_cases v2 : v = 2
        · obtain ⟨s1, s2⟩ := vc.2.mp v2
          have ne : ¬ nI t = xx := fun z => by rw [(hs z).1] at s1; exact absurd s1 (by decide)
          obtain ⟨M1, z, d1, d2, d3, d4, d5⟩ := tell (fz_k op) fall c3 ne (hn ne).2
          rw [if_pos v2, show f_M_contrary (d_opn c) = some (fz_k op) by rw [eop]; exact c1, bd_some, d1, b2_some]
          refine ⟨M1, rfl, d2, d3, d4.trans hv2, fun q _ hf => ?_, fun q hq2 _ => d5 q hq2⟩
          rw [hf] at s2
          exact absurd s2 (by decide)
        · rw [if_neg v2]
          refine ⟨Q, rfl, gQ, kv_eq hk kQ, Q68.trans hv2, fun q hg hf => ?_, fun q hf hg => ?_⟩
          · exact absurd (vc.1.mpr ⟨by rw [hg]; rfl, by rw [hf]; rfl⟩) v1
          · exact absurd (vc.2.mpr ⟨by rw [hg]; rfl, by rw [hf]; rfl⟩) v2
    have fin : ∀ (P : me_M) (go fall : Option (fn_N × fn_N)) (a b : Int32), (a = 0 ↔ go.isSome = false) → (b = 0 ↔ fall.isSome = false) → rq (fun k => 30075 ≤ k ∧ ¬ k = 30078) N P → (nI t = xx → go.isSome = true ∧ fall.isSome = true) → (¬ nI t = xx → go = fn_tell (d_opn c) (d_nar c) (rg N t) (rg N x) ∧ fall = fn_tell (fz_k op) (d_nar c) (rg N t) (rg N x)) → ∃ M1, f_M_numbers_b99 0 (d_opn c) (nI t) xx (d_nar c) P a b = some M1 ∧ rJ (jS w) (jT w) jO N M1 ∧ kv M1 ∧ rrP M1 w (if ¬ d_rf c = 0 ∧ d_ti c = d_fi c then .ok (some (rv N 0), some (rv N 0)) else .ok ((fn_tell (d_opn c) (d_nar c) (rg N t) (rg N x)).map (s_tn c (rv N 0)), (fn_tell (fz_k op) (d_nar c) (rg N t) (rg N x)).map (s_tn c (rv N 0)))) 0 := by
      intro P go fall a b ha hb gP hs hn
      obtain ⟨M1, d1, d2, d3, d4, d5, d6⟩ := b122 P go fall gP hs hn
      have e1 : f_M_numbers_b99 0 (d_opn c) (nI t) xx (d_nar c) P a b = f_M_numbers_b122 0 (d_opn c) (nI t) xx (d_nar c) P (if fall.isSome then 2 else 0) (if go.isSome then 1 else 0) 0 := by
        unfold f_M_numbers_b99 f_M_numbers_b112
        by_cases za : a = 0
        · rw [if_pos za, ha.mp za]
          by_cases zb : b = 0
          · rw [if_pos zb, hb.mp zb]; rfl
          · have : fall.isSome = true := by
              cases hh : fall.isSome
              · exact absurd (hb.mpr hh) zb
              · rfl
            rw [if_neg zb, this]; rfl
        · have g1 : go.isSome = true := by
            cases hh : go.isSome
            · exact absurd (ha.mpr hh) za
            · rfl
          rw [if_neg za, g1]
          by_cases zb : b = 0
          · rw [if_pos zb, hb.mp zb]; rfl
          · have : fall.isSome = true := by
              cases hh : fall.isSome
              · exact absurd (hb.mpr hh) zb
              · rfl
            rw [if_neg zb, this]; rfl
      rw [e1, d1]
      refine ⟨M1, rfl, d2, d3, ?_⟩
      by_cases ne : nI t = xx
      · obtain ⟨s1, s2⟩ := hs ne
        rw [if_pos (eq_iff.mp ne)]
        rw [s1, s2] at d4
        refine ⟨rfl, d4, fun z => by omega, fun _ => ⟨fun τ _ z => absurd z (by simp), fun τ _ z => absurd z (by simp)⟩⟩
      · obtain ⟨s1, s2⟩ := hn ne
        rw [if_neg (fun z => ne (eq_iff.mpr z)), ← s1, ← s2]
        refine ⟨rfl, by rw [d4]; simp, fun z => by omega, fun _ => ⟨?_, ?_⟩⟩
        · intro τ z1 z2
          have z1' : go.map (s_tn c (rv N 0)) = some τ := z1
          have z2' : fall.map (s_tn c (rv N 0)) = none := z2
          cases hg : go with
          | none => rw [hg] at z1'; exact absurd z1' (by simp)
          | some q =>
            cases hf : fall with
            | some q2 => rw [hf] at z2'; exact absurd z2' (by simp)
            | none =>
              rw [hg] at z1'
              have : s_tn c (rv N 0) q = τ := Option.some.inj z1'
              rw [← this]
              exact d5 q hg hf
        · intro τ z1 z2
          have z1' : fall.map (s_tn c (rv N 0)) = some τ := z1
          have z2' : go.map (s_tn c (rv N 0)) = none := z2
          cases hf : fall with
          | none => rw [hf] at z1'; exact absurd z1' (by simp)
          | some q =>
            cases hg : go with
            | some q2 => rw [hg] at z2'; exact absurd z2' (by simp)
            | none =>
              rw [hf] at z1'
              have : s_tn c (rv N 0) q = τ := Option.some.inj z1'
              rw [← this]
              exact d6 q hf hg
    have two : ∀ P : me_M, rq (fun k => 30075 ≤ k ∧ ¬ k = 30078) N P → rq (fun k => 30075 ≤ k ∧ ¬ k = 30078) N (rt (rt P 30079 (rg N t)) 30080 (rg N x)) ∧ rg (rt (rt P 30079 (rg N t)) 30080 (rg N x)) 30079 = rg N t ∧ rg (rt (rt P 30079 (rg N t)) 30080 (rg N x)) 30080 = rg N x := fun P g => ⟨rq_trans g (rq_trans (rq_t ⟨by decide, by decide⟩) (rq_t ⟨by decide, by decide⟩)), by rw [rg_L (by decide), rg_t], rg_t⟩
    by_cases ne : nI t = xx
    · unfold f_M_numbers_b47
      rw [if_pos ne, b52 A 1 fA, if_pos ne]
      unfold f_M_numbers_b94
      exact fin _ (some (rg N t, rg N t)) (some (rg N t, rg N t)) 1 1 (by simp) (by simp) (two A fA).1 (fun _ => ⟨rfl, rfl⟩) (fun z => absurd ne z)
    · rw [if_neg ne]
      obtain ⟨B, z, d1, d2, d3⟩ := pm_holds hpA (op := d_opn c) (nar := d_nar c) ok_S ok_U (by decide) (by decide) (by decide) (by rw [eop]; exact c2)
      rw [A1, A2] at d3
      rw [d1, b2_some]
      have fB : rq (fun k => 30075 ≤ k ∧ ¬ k = 30078) N B := rq_trans fA (rq_mono d2 (fun i hi => by rcases hi with z | z | z | z <;> omega))
      have go_z : (z = 0 ↔ (fn_tell (d_opn c) (d_nar c) (rg N t) (rg N x)).isSome = false) := by
        cases hh : fn_tell (d_opn c) (d_nar c) (rg N t) (rg N x) with
        | none => rw [hh] at d3; simp [d3.1]
        | some q => rw [hh] at d3; simp [d3.1]
      have nxt : ∀ (P : me_M) (s0 : Int32), rq (fun k => 30075 ≤ k ∧ ¬ k = 30078) N P → (s0 = 0 ↔ (fn_tell (d_opn c) (d_nar c) (rg N t) (rg N x)).isSome = false) → ∃ M1, f_M_numbers_b52 0 (d_opn c) (nI t) xx (d_nar c) P s0 = some M1 ∧ rJ (jS w) (jT w) jO N M1 ∧ kv M1 ∧ rrP M1 w (if ¬ d_rf c = 0 ∧ d_ti c = d_fi c then .ok (some (rv N 0), some (rv N 0)) else .ok ((fn_tell (d_opn c) (d_nar c) (rg N t) (rg N x)).map (s_tn c (rv N 0)), (fn_tell (fz_k op) (d_nar c) (rg N t) (rg N x)).map (s_tn c (rv N 0)))) 0 := by
        intro P s0 gP hs0
        obtain ⟨t1, t2, t3⟩ := two P gP
        rw [b52 P s0 gP, if_neg ne]
        generalize rt (rt P 30079 (rg N t)) 30080 (rg N x) = D at t1 t2 t3
        obtain ⟨E, z2, q1, q2, q3⟩ := pm_holds (rq_ps t1 h) (op := fz_k op) (nar := d_nar c) ok_S ok_U (by decide) (by decide) (by decide) c3
        rw [t2, t3] at q3
        have fE : rq (fun k => 30075 ≤ k ∧ ¬ k = 30078) N E := rq_trans t1 (rq_mono q2 (fun i hi => by rcases hi with z | z | z | z <;> omega))
        have fall_z : (z2 = 0 ↔ (fn_tell (fz_k op) (d_nar c) (rg N t) (rg N x)).isSome = false) := by
          cases hh : fn_tell (fz_k op) (d_nar c) (rg N t) (rg N x) with
          | none => rw [hh] at q3; simp [q3.1]
          | some q => rw [hh] at q3; simp [q3.1]
        have c1' : f_M_contrary (d_opn c) = some (fz_k op) := by rw [eop]; exact c1
        rw [c1', bd_some, q1, b2_some]
        by_cases zz : z2 = 0
        · rw [if_pos zz]
          exact fin E _ _ s0 0 hs0 ⟨fun _ => fall_z.mp zz, fun _ => rfl⟩ fE (fun z => absurd z ne) (fun _ => ⟨rfl, rfl⟩)
        · rw [if_neg zz]
          unfold f_M_numbers_b94
          exact fin E _ _ s0 1 hs0 ⟨fun z => absurd z (by decide), fun z => absurd (fall_z.mpr z) zz⟩ fE (fun z => absurd z ne) (fun _ => ⟨rfl, rfl⟩)
      by_cases zz : z = 0
      · rw [if_pos zz]
        exact nxt B 0 fB ⟨fun _ => go_z.mp zz, fun _ => rfl⟩
      · rw [if_neg zz]
        unfold f_M_numbers_b47
        exact nxt B 1 fB ⟨fun z => absurd z (by decide), fun z2 => absurd (go_z.mpr z2) zz⟩
  · -- there is a row left
    have w1 : w < 200 := by omega
    rw [if_neg (fun z => w2 (by
      have := congrArg Int32.toInt z
      rw [nI_int (by omega), show (200 : Int32).toInt = 200 from rfl] at this
      omega)), show (0 : Int32) = nI 0 from rfl]
    obtain ⟨A, a1, a2, a3, a4⟩ := rcopy h hk (a := 0) (b := 201 + w) (by omega) (by omega) (by omega)
    rw [a1, bd_some, show nI 0 = (0 : Int32) from rfl]
    have hA : ps_M A := rf_ps a2 h
    have gA' : rJ (jS w) (jT w) jO N A := rJ_mono (rJ_f a2) (fun i z => Or.inr (Or.inr ⟨w1, z⟩)) (fun i z => ⟨w1, z⟩) (fun i z => z)
    have rv0 : ∀ i, i < 75 → rv A 0 i = rv N 0 i := rJ_rv (rJ_f (O := jO) a2) (fun f z => by rintro ⟨y, _⟩; have := z.2; omega) (fun f z => by rintro ⟨y, _⟩; have := z.2; omega)
    have A68 : mI A 1 0 68 = 3 := by rw [a2.2.2.2.1 1 0 68 (fun z => by rcases z.1 with q | q <;> exact absurd q.1 (by decide)) (fun z => absurd z.1 (by decide))]; exact h68
    by_cases ne : nI t = xx
    · rw [if_pos ne, if_pos (eq_iff.mp ne)]
      refine ⟨A, rfl, gA', a3, rfl, A68, fun _ => ⟨?_, ?_⟩, fun z => by omega⟩
      · intro τ z i hi
        rw [← Option.some.inj z]
        exact a4 i hi
      · intro τ z i hi
        rw [← Option.some.inj z]
        exact rv0 i hi
    · rw [if_neg ne, if_neg (show ¬ (¬ d_rf c = 0 ∧ d_ti c = d_fi c) from fun z => ne (eq_iff.mpr z))]
      obtain ⟨nt, cc⟩ := cond (fun z => ne (eq_iff.mpr z))
      have iA0' : ∀ i, i < 75 ∨ 30075 ≤ i → rg A i = rg N i := fun i hi => rf_rg a2 (fun z => by have := z.1; have := z.2; omega)
      have kA0' : ∀ i, i < 75 ∨ 30075 ≤ i → mI A 14 8 i = mI N 14 8 i := fun i hi => a2.2.2.2.1 14 8 i (fun z => by have := z.2.1; have := z.2.2; omega) (fun z => absurd z.1 (by decide))
      -- behind the copies: y's number is at place j
      have b229 : ∀ (P : me_M) (yi : Int32) (j : Nat), rq (fun k => k = 30079) A P → ok yi j → ((d_rf c = 0 ∧ j = 30079) ∨ (¬ d_rf c = 0 ∧ j = 75 * (201 + w) + d_fi c ∧ d_fi c < 11 ∧ ¬ t = d_fi c)) → rg P j = rg N x → (¬ d_rf c = 0 → mI P 14 8 j = 1) → ∃ M1, f_M_numbers_b229 0 (d_opn c) (nI t) xx (d_nar c) P (nI (75 * (201 + w) + t)) yi = some M1 ∧ rJ (jS w) (jT w) jO N M1 ∧ kv M1 ∧ rrP M1 w (.ok ((fn_tell (d_opn c) (d_nar c) (rg N t) (rg N x)).map (s_tn c (rv N 0)), (fn_tell (fz_k op) (d_nar c) (rg N t) (rg N x)).map (s_tn c (rv N 0)))) 0 := by
        intro P yi j gP oy hj rj kj
        have hP : ps_M P := rq_ps gP hA
        have otr : ok (nI (75 * (201 + w) + t)) (75 * (201 + w) + t) := ok_n (by omega)
        have itT : it A 0 (75 * (201 + w) + t) = it N 0 t := by rw [← rv_n ht, a4 t (by omega), rv_n ht, Nat.mul_zero, Nat.zero_add]
        have kT0 : mI A 14 8 (75 * (201 + w) + t) = 1 := (show mI A 14 8 (75 * (201 + w) + t) = mI N 14 8 t from congrArg (fun z : sC => z.1) itT).trans k1
        have kT : mI P 14 8 (75 * (201 + w) + t) = 1 := by rw [gP.1]; exact kT0
        have rT : rg P (75 * (201 + w) + t) = rg N t := by
          rw [rq_g gP (by omega)]
          have e1 : cX (it A 0 (75 * (201 + w) + t)) = rg A (75 * (201 + w) + t) := it_x (Or.inl kT0)
          have e2 : cX (it N 0 t) = rg N t := it_x (Or.inl k1)
          rw [← e1, ← e2, itT]
        obtain ⟨B, z1, d1, d2, d3⟩ := pm_holds hP (op := d_opn c) (nar := d_nar c) otr oy (by omega) (by rcases hj with y | y <;> omega) (by rcases hj with y | y <;> omega) (by rw [eop]; exact c2)
        rw [rT, rj] at d3
        have hB : ps_M B := rq_ps d2 hP
        have IB : mI B = mI A := d2.1.trans gP.1
        have rB : ∀ i, i < 75 ∨ i = 30078 → rg B i = rg N i := by
          intro i hi
          rw [rq_g d2 (by rcases hj with y | y <;> omega), rq_g gP (by omega), iA0' i (by omega)]
        obtain ⟨E, z2, q1, q2, q3⟩ := pm_holds hB (op := fz_k op) (nar := d_nar c) ot ox (by omega) hx2 nt c3
        rw [rB t (by omega), rB x (by rcases hx with y | y <;> omega)] at q3
        have IE : mI E = mI A := q2.1.trans IB
        have c1' : f_M_contrary (d_opn c) = some (fz_k op) := by rw [eop]; exact c1
        have gB : rJ (jS w) (jT w) jO N B := rJ_trans gA' (rJ_trans (rJ_mono (rJ_f (rf_q (T := mT) gP)) (fun i z => Or.inr (Or.inl (by omega))) (fun i z => z.elim) (fun i z => z)) (rJ_mono (rJ_f (rf_q (T := mT) d2)) (fun i z => by
          rcases z with z | z | z | z
          · exact Or.inr (Or.inl (by omega))
          · exact Or.inr (Or.inl (by omega))
          · exact Or.inr (Or.inr ⟨w1, by omega⟩)
          · rcases hj with y | y
            · exact Or.inr (Or.inl (by omega))
            · exact Or.inr (Or.inr ⟨w1, by omega⟩)) (fun i z => z.elim) (fun i z => z)))
        have gE : rJ (jS w) (jT w) jO N E := rJ_trans gB (rJ_mono (rJ_f (rf_q (T := mT) q2)) (fun i z => by
          rcases z with z | z | z | z
          · exact Or.inr (Or.inl (by omega))
          · exact Or.inr (Or.inl (by omega))
          · exact Or.inl (by omega)
          · rcases hx with y | y
            · exact Or.inr (Or.inl (by omega))
            · exact Or.inl (by omega)) (fun i z => z.elim) (fun i z => z))
        have hj2 : (d_rf c = 0 ∧ 30077 < j) ∨ (¬ d_rf c = 0 ∧ j = 75 * (201 + w) + d_fi c ∧ d_fi c < 11 ∧ ¬ t = d_fi c) := by
          rcases hj with y | y
          · exact Or.inl ⟨y.1, by omega⟩
          · exact Or.inr y
        have rvP : ∀ i, i < 75 → rv P (201 + w) i = rv N 0 i := by
          intro i hi
          rw [rJ_rv (rJ_f (O := jO) (rf_q (T := mT) gP)) (fun f z y => by have := z.2; omega) (fun f z y => y) i hi]
          exact a4 i hi
        have rvB0 : ∀ i, i < 75 → rv B 0 i = rv N 0 i := by
          intro i hi
          rw [rJ_rv (rJ_f (O := jO) (rf_q (T := mT) d2)) (fun f z y => by have := z.2; rcases hj with y2 | y2 <;> omega) (fun f z y => y) i hi, rJ_rv (rJ_f (O := jO) (rf_q (T := mT) gP)) (fun f z y => by have := z.2; omega) (fun f z y => y) i hi]
          exact rv0 i hi
        have rvE : ∀ i, i < 75 → rv E (201 + w) i = rv B (201 + w) i := rJ_rv (rJ_f (O := jO) (rf_q (T := mT) q2)) (fun f z y => by have := z.1; have := z.2; rcases hx with y2 | y2 <;> omega) (fun f z y => y)
        have goS : ∀ q, fn_tell (d_opn c) (d_nar c) (rg N t) (rg N x) = some q → ∀ i, i < 75 → rv E (201 + w) i = s_tn c (rv N 0) q i := by
          intro q hq2 i hi
          rw [hq2] at d3
          rw [rvE i hi, rv_up2 (c := c) ht (by omega) hj2 d2 kT kj d3.2.1 d3.2.2 et i hi]
          exact s_tn_c rvP i hi
        have faS : ∀ q, fn_tell (fz_k op) (d_nar c) (rg N t) (rg N x) = some q → ∀ i, i < 75 → rv E 0 i = s_tn c (rv N 0) q i := by
          intro q hq2 i hi
          rw [hq2] at q3
          rw [rv_up2 (c := c) (N := B) (r := 0) (t := t) ht (by decide) cc (by rw [Nat.mul_zero, Nat.zero_add]; exact q2) (by rw [Nat.mul_zero, Nat.zero_add, IB, kA0' t (by omega)]; exact k1) (fun _ => by rw [IB, kA0' x (by rcases hx with y | y <;> omega)]; exact k2) (by rw [Nat.mul_zero, Nat.zero_add]; exact q3.2.1) q3.2.2 et i hi]
          exact s_tn_c rvB0 i hi
        have fin : ∀ v : Int32, v = nI ((if (fn_tell (d_opn c) (d_nar c) (rg N t) (rg N x)).isSome then 1 else 0) + (if (fn_tell (fz_k op) (d_nar c) (rg N t) (rg N x)).isSome then 2 else 0)) → ∃ M1, st (wI E 1 0 68 v) (fun M8 => some M8) = some M1 ∧ rJ (jS w) (jT w) jO N M1 ∧ kv M1 ∧ rrP M1 w (.ok ((fn_tell (d_opn c) (d_nar c) (rg N t) (rg N x)).map (s_tn c (rv N 0)), (fn_tell (fz_k op) (d_nar c) (rg N t) (rg N x)).map (s_tn c (rv N 0)))) 0 := by
          intro v hv
          refine ⟨_, rfl, rJ_trans gE (rJ_o rfl), kv_eq a3 (fun q => by rw [pI_I, if_neg (fun z => absurd z.1 (by decide)), IE]), rfl, ?_, fun _ => ⟨?_, ?_⟩, fun z => by omega⟩
          · rw [pI_same, hv]
            simp
          · intro τ z i hi
            have z' : (fn_tell (d_opn c) (d_nar c) (rg N t) (rg N x)).map (s_tn c (rv N 0)) = some τ := z
            rw [rv_1]
            cases hg : fn_tell (d_opn c) (d_nar c) (rg N t) (rg N x) with
            | none => rw [hg] at z'; exact absurd z' (by simp)
            | some q =>
              rw [hg] at z'
              rw [← show s_tn c (rv N 0) q = τ from Option.some.inj z']
              exact goS q hg i hi
          · intro τ z i hi
            have z' : (fn_tell (fz_k op) (d_nar c) (rg N t) (rg N x)).map (s_tn c (rv N 0)) = some τ := z
            rw [rv_1]
            cases hg : fn_tell (fz_k op) (d_nar c) (rg N t) (rg N x) with
            | none => rw [hg] at z'; exact absurd z' (by simp)
            | some q =>
              rw [hg] at z'
              rw [← show s_tn c (rv N 0) q = τ from Option.some.inj z']
              exact faS q hg i hi
        unfold f_M_numbers_b229
        rw [d1, b2_some, c1', bd_some, q1, b2_some]
        cases hg : fn_tell (d_opn c) (d_nar c) (rg N t) (rg N x) with
        | none =>
          cases hf : fn_tell (fz_k op) (d_nar c) (rg N t) (rg N x) with
          | none =>
            rw [hg] at d3 fin
            rw [hf] at q3 fin
            rw [if_pos d3.1, if_pos q3.1]
            exact fin 0 rfl
          | some b =>
            rw [hg] at d3 fin
            rw [hf] at q3 fin
            rw [if_pos d3.1, if_neg (by rw [q3.1]; decide)]
            exact fin 2 rfl
        | some a =>
          cases hf : fn_tell (fz_k op) (d_nar c) (rg N t) (rg N x) with
          | none =>
            rw [hg] at d3 fin
            rw [hf] at q3 fin
            rw [if_neg (by rw [d3.1]; decide), if_pos q3.1]
            exact fin 1 rfl
          | some b =>
            rw [hg] at d3 fin
            rw [hf] at q3 fin
            rw [if_neg (by rw [d3.1]; decide), if_neg (by rw [q3.1]; decide)]
            exact fin 3 rfl
      unfold f_M_rowOf
      rw [bd_some, st_eq, row_n]
      rcases hx with y | y
      · rw [if_pos (x8_iff.mpr y.2)]
        unfold f_M_numbers_b210
        rw [if_pos (x8_iff.mpr y.2), pm_copy hA ok_F ok_S, bd_some]
        refine b229 _ 30079 30079 (rq_t rfl) ok_S (Or.inl ⟨y.1, rfl⟩) ?_ (fun z => absurd y.1 z)
        rw [rg_t, iA0' 30078 (by omega), y.2]
      · have nx8 : ¬ xx = 30078 := fun z => by have := x8_iff.mp z; omega
        rw [if_neg nx8, bd_some, exx, row_n, ← exx]
        unfold f_M_numbers_b210
        rw [if_neg nx8]
        have ne2 : ¬ t = d_fi c := fun z => nt (by rw [y.2.1]; exact z)
        have itF : it A 0 (75 * (201 + w) + x) = it N 0 x := by rw [y.2.1, ← rv_n y.2.2, a4 (d_fi c) (by omega), rv_n y.2.2, Nat.mul_zero, Nat.zero_add]
        have kF0 : mI A 14 8 (75 * (201 + w) + x) = 1 := (show mI A 14 8 (75 * (201 + w) + x) = mI N 14 8 x from congrArg (fun z : sC => z.1) itF).trans k2
        refine b229 A (nI (75 * (201 + w) + x)) (75 * (201 + w) + x) rq_refl (ok_n (by omega)) (Or.inr ⟨y.1, by omega, y.2.2, ne2⟩) ?_ (fun _ => kF0)
        have e1 : cX (it A 0 (75 * (201 + w) + x)) = rg A (75 * (201 + w) + x) := it_x (Or.inl kF0)
        have e2 : cX (it N 0 x) = rg N x := it_x (Or.inl k2)
        rw [← e1, ← e2, itF]
end RT
