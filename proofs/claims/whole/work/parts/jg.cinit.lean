/-! PURE: the class's constructor, step by step. -/
def cl_ : List (Nat × Int32 × Nat) := [(16, 2000, 0), (15, 2000, 1), (15, 2000, 2)]
def fl_ : List (Nat × Int32 × Nat) := [(13, 2000, 0), (15, 2000, 1), (15, 2000, 2), (13, 2000, 3), (16, 2000, 4), (15, 2000, 5), (13, 2001, 6)]
def xl_ : List (Nat × Int32 × Nat) := [(17, 200, 3), (17, 200, 4), (13, 76, 5), (13, 76, 6)]
def ml_ : List (Nat × Int32 × Nat) := [(14, 64, 4), (14, 512, 5), (16, 16, 6), (14, 2000, 7), (16, 1000, 9)]
def gl_ : List (Nat × Int32 × Nat) := [(14, 1280, 0), (19, 4, 2)]
def A1_ : me_M := mkA 0 0 gl_ (nO mz_0 0)
def A2_ : me_M := wR (mkA 2 0 cl_ (nO A1_ 2)) 0 0 4 (some 0)
def A3_ : me_M := wR (mkA 2 1 cl_ (nO A2_ 2)) 0 0 5 (some 1)
def A4_ : me_M := wR (mkA 3 0 fl_ (nO A3_ 3)) 0 0 6 (some 0)
def A6_ : me_M := wR (wR (mkA 4 0 xl_ (nO A4_ 4)) 4 0 0 (some 0)) 4 0 1 (some 0)
def A7_ : me_M := wR (mkN 8 0 [0, 1, 2, 3, 4] (nO (nO A6_ 7) 8)) 7 0 2 (some 0)
def A8_ : me_M := wR (wR (nO (nO A7_ 10) 11) 10 0 6 (some 5)) 7 0 3 (some 0)
def A9_ : me_M := wR (wR (mkN 7 0 [4, 15, 16, 17, 18] A8_) 7 0 0 (some 0)) 7 0 1 (some 0)
def AX_ : me_M := wR A9_ 4 0 2 (some 0)
/-- behind the first state, up to the second -/
def fB_ (M : me_M) : me_M := wR (wR M 4 0 8 (some 0)) 0 0 7 (some 0)
def fM_ (M : me_M) : me_M := wR (wR (wR (mkA 5 0 ml_ (nO (fB_ M) 5)) 5 0 0 (some 0)) 5 0 1 (some 1)) 5 0 2 (some 0)
def fY_ (M : me_M) : me_M := nO (fM_ M) 6
/-- behind the second state -/
def fC_ (M : me_M) : me_M := wR (wR (wR (wR (wR (wR M 6 0 2 (some 1)) 6 0 3 (some 1)) 6 0 0 (some 0)) 6 0 1 (some 0)) 5 0 3 (some 0)) 5 0 16 (some 0)
def fD_ (M : me_M) : me_M := wI (wR (wR (fC_ M) 5 0 18 (some 2)) 0 0 8 (some 0)) 0 0 10 (-1)
section JCJ
variable {M N : me_M}
theorem g_cl : ∀ x, x ∈ cl_ → mkg x := by unfold mkg; decide +kernel
theorem g_fl : ∀ x, x ∈ fl_ → mkg x := by unfold mkg; decide +kernel
theorem g_xl : ∀ x, x ∈ xl_ → mkg x := by unfold mkg; decide +kernel
theorem g_ml : ∀ x, x ∈ ml_ → mkg x := by unfold mkg; decide +kernel
theorem g_gl : ∀ x, x ∈ gl_ → mkg x := by unfold mkg; decide +kernel
theorem o_ml : ∀ x, x ∈ ml_ → ¬ kS x.1 := by decide +kernel
theorem c_code1 : f_Code_init (nO A1_ 2) (mN A1_ 2) = some (mkA 2 0 cl_ (nO A1_ 2)) := by
  have e : f_Code_init (nO A1_ 2) (mN A1_ 2) = mka 2 0 some cl_ (nO A1_ 2) := rfl
  rw [e]
  exact mka_ok cl_ _ g_cl (by decide +kernel) (by decide +kernel)
theorem c_code2 : f_Code_init (nO A2_ 2) (mN A2_ 2) = some (mkA 2 1 cl_ (nO A2_ 2)) := by
  have e : f_Code_init (nO A2_ 2) (mN A2_ 2) = mka 2 1 some cl_ (nO A2_ 2) := rfl
  rw [e]
  exact mka_ok cl_ _ g_cl (by decide +kernel) (by decide +kernel)
theorem c_facts : f_Facts_init (nO A3_ 3) (mN A3_ 3) = some (mkA 3 0 fl_ (nO A3_ 3)) := by
  have e : f_Facts_init (nO A3_ 3) (mN A3_ 3) = mka 3 0 some fl_ (nO A3_ 3) := rfl
  rw [e]
  exact mka_ok fl_ _ g_fl (by decide +kernel) (by decide +kernel)
theorem c_reck : f_Reckoner_init (nO (nO A6_ 7) 8) (mN (nO A6_ 7) 8) = some (mkN 8 0 [0, 1, 2, 3, 4] (nO (nO A6_ 7) 8)) := by
  have e : f_Reckoner_init (nO (nO A6_ 7) 8) (mN (nO A6_ 7) 8) = mkn 8 0 some [0, 1, 2, 3, 4] (nO (nO A6_ 7) 8) := rfl
  rw [e]
  exact mkn_ok _ _ (by decide +kernel) (by decide +kernel)
theorem c_steps : f_Steps_init (nO A6_ 7) (mN A6_ 7) 0 0 = some A9_ := by
  unfold f_Steps_init
  rw [gd_pos (show me_fit (nO A6_ 7) 8 by decide +kernel), st_eq, c_reck, bd_some, st_eq]
  rw [show wR (mkN 8 0 [0, 1, 2, 3, 4] (nO (nO A6_ 7) 8)) 7 (mN A6_ 7) 2 (some (mN (nO A6_ 7) 8)) = A7_ from rfl]
  rw [gd_pos (show me_fit A7_ 10 by decide +kernel), st_eq]
  have ec : f_Cell_init (nO A7_ 10) (mN A7_ 10) = some (wR (nO (nO A7_ 10) 11) 10 0 6 (some 5)) := by
    unfold f_Cell_init f_Num_init
    rw [gd_pos (show me_fit (nO A7_ 10) 11 by decide +kernel), st_eq, bd_some, st_eq]
    rfl
  rw [ec, bd_some, st_eq]
  rw [show wR (wR (nO (nO A7_ 10) 11) 10 0 6 (some 5)) 7 (mN A6_ 7) 3 (some (mN A7_ 10)) = A8_ from rfl]
  have e : mkn 7 0 (fun M35 => some (wR (wR M35 7 0 0 (some 0)) 7 0 1 (some 0))) [4, 15, 16, 17, 18] A8_ = some A9_ := by
    rw [mkn_ok _ _ (by decide +kernel) (by decide +kernel)]
    rfl
  rw [← e]
  rfl
theorem X_ss : ss AX_ := by
  have n9 : mN AX_ 9 = 0 := by decide +kernel
  refine ⟨fun s hs => by omega, fun s i hs => by omega, fun c hc => ?_⟩
  have : c = 0 := by omega
  rw [this]
  decide +kernel
theorem X_cnt : cnt AX_ := by unfold cnt; decide +kernel
theorem X_fit : me_cN (mN AX_) ≤ 1000 ∧ me_sN (mN AX_) ≤ 1500000 := by decide +kernel
theorem f_152 {c s : Nat} (h1 : c ≤ 2200) (h2 : s ≤ 2100000) : c + 152 ≤ me_CL ∧ s + 1055 ≤ me_SL := by
  unfold me_CL me_SL
  omega
theorem le_152 {c d : Nat} (h : d = c + 152) (h1 : c ≤ 1000) : d ≤ 2000 := by omega
theorem le_1055 {c d : Nat} (h : d = c + 1055) (h1 : c ≤ 1500000) : d ≤ 1600000 := by omega
theorem c_expl : ∃ X1, f_Explorer_init (nO A4_ 4) (mN A4_ 4) 0 0 0 = some (wR X1 4 0 8 (some 0)) ∧ ss X1 ∧ cnt X1 ∧ mN X1 9 = 1 ∧ (∃ u, us X1 0 u) ∧ ag X1 AX_ ∧ me_cN (mN X1) ≤ 2000 ∧ me_sN (mN X1) ≤ 1600000 := by
  obtain ⟨f1, f2⟩ := X_fit
  obtain ⟨n1, X1, n2, n3, n4, n5, n6, n7, n8, n9, n10⟩ := st_new X_ss X_cnt (f_152 (Nat.le_trans f1 (by decide)) (Nat.le_trans f2 (by decide)))
  have z9 : mN AX_ 9 = 0 := by decide +kernel
  rw [z9] at n2 n5 n6
  refine ⟨X1, ?_, n3, n4, n5, ⟨11, n6⟩, ag_nfr n8, le_152 n9 f1, le_1055 n10 f2⟩
  have e : f_Explorer_init (nO A4_ 4) (mN A4_ 4) 0 0 0 = mka 4 0 (fun M16 => st (wR M16 4 0 0 (some 0)) (fun (M17 : me_M) => st (wR M17 4 0 1 (some 0)) (fun (M18 : me_M) => gd (me_fit M18 7) (st (nO M18 7) (fun (M20 : me_M) => bd (f_Steps_init M20 (mN M18 7) 0 0) (fun (M22 : me_M) => st (wR M22 4 0 2 (some (mN M18 7))) (fun (M23 : me_M) => gd (me_fit M23 9) (st (nO M23 9) (fun (M25 : me_M) => bd (f_State_init M25 (mN M23 9)) (fun (M27 : me_M) => st (wR M27 4 0 8 (some (mN M23 9))) (fun (M28 : me_M) => some M28))))))))))) xl_ (nO A4_ 4) := rfl
  rw [e, mka_ok xl_ _ g_xl (by decide +kernel) (by decide +kernel), st_eq, st_eq]
  rw [show wR (wR (mkA 4 0 xl_ (nO A4_ 4)) 4 0 0 (some 0)) 4 0 1 (some 0) = A6_ from rfl, gd_pos (show me_fit A6_ 7 by decide +kernel), st_eq, c_steps, bd_some, st_eq]
  rw [show wR A9_ 4 0 2 (some (mN A6_ 7)) = AX_ from rfl, gd_pos n1, st_eq, z9, n2, bd_some, st_eq]
theorem fM_cN : mN (fM_ M) = me_N1 (me_N1 (me_N1 (me_N1 (me_N1 (me_N1 (mN M) 5) 14) 14) 16) 14) 16 := rfl
theorem fM_fit (f1 : me_cN (mN M) ≤ 2000) (f2 : me_sN (mN M) ≤ 1600000) : me_cN (mN (fM_ M)) ≤ 2100 ∧ me_sN (mN (fM_ M)) ≤ 2000000 := by
  have s5 : me_sc 5 ≤ 100 := by decide
  have s14 : me_sc 14 = 65536 := by decide
  have s16 : me_sc 16 = 30081 := by decide
  rw [fM_cN, me_cN1 (by decide), me_cN1 (by decide), me_cN1 (by decide), me_cN1 (by decide), me_cN1 (by decide), me_cN1 (by decide), me_sN1 (by decide), me_sN1 (by decide), me_sN1 (by decide), me_sN1 (by decide), me_sN1 (by decide), me_sN1 (by decide), s14, s16]
  omega
theorem ag_fB (h : ag M N) : ag (fB_ M) (fB_ N) := ag_wR (ag_wR h)
theorem ag_fM (h : ag M N) : ag (fM_ M) (fM_ N) := ag_wR (ag_wR (ag_wR (ag_mkA ml_ _ _ o_ml (ag_nO (by decide) (ag_fB h)))))
theorem ag_fY (h : ag M N) : ag (fY_ M) (fY_ N) := ag_nO (by decide) (ag_fM h)
theorem ag_fC (h : ag M N) : ag (fC_ M) (fC_ N) := ag_wR (ag_wR (ag_wR (ag_wR (ag_wR (ag_wR h)))))
theorem ag_fD (h : ag M N) : ag (fD_ M) (fD_ N) := ag_wI (ag_wR (ag_wR (ag_fC h)))
theorem bg_fB : bg M (fB_ M) := bg_trans (bg_wR (by decide)) (bg_wR (by decide))
theorem bg_fY : bg M (fY_ M) := bg_trans bg_fB (bg_trans (bg_nO (by decide)) (bg_trans (bg_mkA ml_ _ o_ml (by decide)) (bg_trans (bg_wR (by decide)) (bg_trans (bg_wR (by decide)) (bg_trans (bg_wR (by decide)) (bg_nO (by decide)))))))
theorem bg_fC : bg M (fC_ M) := bg_trans (bg_wR (by decide)) (bg_trans (bg_wR (by decide)) (bg_trans (bg_wR (by decide)) (bg_trans (bg_wR (by decide)) (bg_trans (bg_wR (by decide)) (bg_wR (by decide))))))
theorem bg_fD : bg M (fD_ M) := bg_trans bg_fC (bg_trans (bg_wR (by decide)) (bg_trans (bg_wR (by decide)) (bg_wI (by decide))))
def Z_ : me_M := fD_ (fY_ AX_)
/-- the machine, its checks and the second state -/
theorem c_mach (hs : ss M) (hc : cnt M) (h9 : mN M 9 = 1) (hu : ∃ u, us M 0 u) (ha : ag M AX_) (f1 : me_cN (mN M) ≤ 2000) (f2 : me_sN (mN M) ≤ 1600000) : ∃ Y1, f_Machine_init (nO (fB_ M) 5) 0 0 1 0 = some (wR (fC_ Y1) 5 0 18 (some 2)) ∧ ss Y1 ∧ cnt Y1 ∧ mN Y1 9 = 2 ∧ (∀ s, s < 2 → ∃ u, us Y1 s u) ∧ ag Y1 (fY_ AX_) := by
  obtain ⟨g1, g2⟩ := fM_fit f1 f2
  have s6 : me_sc 6 ≤ 100 := by decide
  have eY : mN (fY_ M) = me_N1 (mN (fM_ M)) 6 := rfl
  have g3 : me_cN (mN (fY_ M)) ≤ 2101 := by rw [eY, me_cN1 (by decide)]; omega
  have g4 : me_sN (mN (fY_ M)) ≤ 2000100 := by rw [eY, me_sN1 (by decide)]; omega
  have y9 : mN (fY_ M) 9 = 1 := (bg_fY 9 (by decide)).1.trans h9
  obtain ⟨n1, Y1, n2, n3, n4, n5, n6, n7, n8, n9, n10⟩ := st_new (ss_b bg_fY hs) (cnt_b bg_fY hc) ⟨by unfold me_CL; omega, by unfold me_SL; omega⟩
  rw [y9] at n2 n5 n6
  have aY : ag Y1 (fY_ AX_) := ag_trans (ag_nfr n8) (ag_fY ha)
  refine ⟨Y1, ?_, n3, n4, n5, fun s l => ?_, aY⟩
  · have e5 : mN (nO (fB_ M) 5) = me_N1 (mN M) 5 := rfl
    have s5 : me_sc 5 ≤ 100 := by decide
    have mc : mkc ml_ = 256770 := by decide +kernel
    have e : f_Machine_init (nO (fB_ M) 5) 0 0 1 0 = mka 5 0 (fun M20 => st (wR M20 5 0 0 (some 0)) (fun (M21 : me_M) => st (wR M21 5 0 1 (some 1)) (fun (M22 : me_M) => st (wR M22 5 0 2 (some 0)) (fun (M23 : me_M) => gd (me_fit M23 6) (st (nO M23 6) (fun (M25 : me_M) => bd (f_Checks_init M25 (mN M23 6) 0 0) (fun (M27 : me_M) => st (wR M27 5 0 3 (some (mN M23 6))) (fun (M28 : me_M) => st (wR M28 5 0 16 (some 0)) (fun (M29 : me_M) => bd (mR M29 5 0 5) (fun (j30 : Nat) => st (wR M29 5 0 18 (some j30)) (fun (M32 : me_M) => some M32))))))))))) ml_ (nO (fB_ M) 5) := rfl
    rw [e, mka_ok ml_ _ g_ml (by rw [e5, me_cN1 (by decide)]; show _ + 5 ≤ me_CL; unfold me_CL; omega) (by rw [e5, me_sN1 (by decide), mc]; unfold me_SL; omega), st_eq, st_eq, st_eq]
    rw [show wR (wR (wR (mkA 5 0 ml_ (nO (fB_ M) 5)) 5 0 0 (some 0)) 5 0 1 (some 1)) 5 0 2 (some 0) = fM_ M from rfl, gd_pos (show me_fit (fM_ M) 6 from ⟨by unfold me_CL; omega, by unfold me_SL; omega⟩), st_eq]
    have e6 : mN (fM_ M) 6 = 0 := ((ag_fM ha) 6 (by decide)).1.trans (by decide +kernel)
    rw [e6, show nO (fM_ M) 6 = fY_ M from rfl]
    have ck : f_Checks_init (fY_ M) 0 0 0 = some (wR (wR (wR (wR Y1 6 0 2 (some 1)) 6 0 3 (some 1)) 6 0 0 (some 0)) 6 0 1 (some 0)) := by
      unfold f_Checks_init
      rw [gd_pos n1, st_eq, y9, n2, bd_some, st_eq, wR_s, bd_some, wR_o (by decide), (n3.1 1 (by rw [n5]; decide)).1, bd_some, st_eq, st_eq, st_eq]
    rw [ck, bd_some, st_eq, st_eq]
    rw [show wR (wR (wR (wR (wR (wR Y1 6 0 2 (some 1)) 6 0 3 (some 1)) 6 0 0 (some 0)) 6 0 1 (some 0)) 5 0 3 (some 0)) 5 0 16 (some 0) = fC_ Y1 from rfl]
    have e55 : mR (fC_ Y1) 5 0 5 = some 2 := by
      rw [((ag_fC aY) 5 (by decide)).2.2.2.1]
      decide +kernel
    rw [e55, bd_some, st_eq]
  · by_cases q : s = 1
    · rw [q]; exact ⟨11, n6⟩
    · have : s = 0 := by omega
      rw [this]
      obtain ⟨u, hu⟩ := hu
      exact ⟨u, us_n n8 (cnt_b bg_fY hc) (by rw [y9]; decide) (us_b bg_fY hu)⟩
theorem g_init : ∃ MG, f_G_init (nO mz_0 0) 0 = some MG ∧ ss MG ∧ cnt MG ∧ mN MG 9 = 2 ∧ (∀ s, s < 2 → ∃ u, us MG s u) ∧ ag MG Z_ := by
  obtain ⟨X1, x1, x2, x3, x4, x5, x6, x7, x8⟩ := c_expl
  obtain ⟨Y1, y1, y2, y3, y4, y5, y6⟩ := c_mach x2 x3 x4 x5 x6 x7 x8
  refine ⟨fD_ Y1, ?_, ss_b bg_fD y2, cnt_b bg_fD y3, (bg_fD 9 (by decide)).1.trans y4, fun s hs => by obtain ⟨u, hu⟩ := y5 s hs; exact ⟨u, us_b bg_fD hu⟩, ag_fD y6⟩
  have e : f_G_init (nO mz_0 0) 0 = mka 0 0 (fun M8 => gd (me_fit M8 2) (st (nO M8 2) (fun (M10 : me_M) => bd (f_Code_init M10 (mN M8 2)) (fun (M12 : me_M) => st (wR M12 0 0 4 (some (mN M8 2))) (fun (M13 : me_M) => gd (me_fit M13 2) (st (nO M13 2) (fun (M15 : me_M) => bd (f_Code_init M15 (mN M13 2)) (fun (M17 : me_M) => st (wR M17 0 0 5 (some (mN M13 2))) (fun (M18 : me_M) => gd (me_fit M18 3) (st (nO M18 3) (fun (M20 : me_M) => bd (f_Facts_init M20 (mN M18 3)) (fun (M22 : me_M) => st (wR M22 0 0 6 (some (mN M18 3))) (fun (M23 : me_M) => gd (me_fit M23 4) (st (nO M23 4) (fun (M25 : me_M) => bd (mR M25 0 0 4) (fun (j27 : Nat) => bd (mR M25 0 0 2) (fun (j29 : Nat) => bd (mR M25 0 0 6) (fun (j31 : Nat) => bd (f_Explorer_init M25 (mN M23 4) j27 j29 j31) (fun (M33 : me_M) => st (wR M33 0 0 7 (some (mN M23 4))) (fun (M34 : me_M) => gd (me_fit M34 5) (st (nO M34 5) (fun (M36 : me_M) => bd (mR M36 0 0 4) (fun (j38 : Nat) => bd (mR M36 0 0 5) (fun (j40 : Nat) => bd (mR M36 0 0 2) (fun (j42 : Nat) => bd (f_Machine_init M36 (mN M34 5) j38 j40 j42) (fun (M44 : me_M) => st (wR M44 0 0 8 (some (mN M34 5))) (fun (M45 : me_M) => st (wI M45 0 0 10 (-1)) (fun (M46 : me_M) => some M46)))))))))))))))))))))))))))) gl_ (nO mz_0 0) := rfl
  rw [e, mka_ok gl_ _ g_gl (by decide +kernel) (by decide +kernel)]
  rw [show mkA 0 0 gl_ (nO mz_0 0) = A1_ from rfl, gd_pos (show me_fit A1_ 2 by decide +kernel), st_eq, c_code1, bd_some, st_eq]
  rw [show wR (mkA 2 0 cl_ (nO A1_ 2)) 0 0 4 (some (mN A1_ 2)) = A2_ from rfl, gd_pos (show me_fit A2_ 2 by decide +kernel), st_eq, c_code2, bd_some, st_eq]
  rw [show wR (mkA 2 1 cl_ (nO A2_ 2)) 0 0 5 (some (mN A2_ 2)) = A3_ from rfl, gd_pos (show me_fit A3_ 3 by decide +kernel), st_eq, c_facts, bd_some, st_eq]
  rw [show wR (mkA 3 0 fl_ (nO A3_ 3)) 0 0 6 (some (mN A3_ 3)) = A4_ from rfl, gd_pos (show me_fit A4_ 4 by decide +kernel), st_eq]
  rw [show mR (nO A4_ 4) 0 0 4 = some 0 by decide +kernel, bd_some, show mR (nO A4_ 4) 0 0 2 = some 0 by decide +kernel, bd_some, show mR (nO A4_ 4) 0 0 6 = some 0 by decide +kernel, bd_some, x1, bd_some, st_eq]
  rw [show mN A4_ 4 = 0 by decide +kernel, show wR (wR X1 4 0 8 (some 0)) 0 0 7 (some 0) = fB_ X1 from rfl]
  have aB := ag_fB x6
  have aO := ag_nO (k := 5) (by decide) aB
  have e5 : mN (fB_ X1) 5 = 0 := (aB 5 (by decide)).1.trans (by decide +kernel)
  have s5 : me_sc 5 ≤ 100 := by decide
  rw [gd_pos (show me_fit (fB_ X1) 5 from ⟨by show me_cN (mN X1) + 1 ≤ me_CL; unfold me_CL; omega, by show me_sN (mN X1) + me_sc 5 ≤ me_SL; unfold me_SL; omega⟩), st_eq, e5]
  have q4 : mR (nO (fB_ X1) 5) 0 0 4 = some 0 := by rw [(aO 0 (by decide)).2.2.2.1]; decide +kernel
  have q5 : mR (nO (fB_ X1) 5) 0 0 5 = some 1 := by rw [(aO 0 (by decide)).2.2.2.1]; decide +kernel
  have q2 : mR (nO (fB_ X1) 5) 0 0 2 = some 0 := by rw [(aO 0 (by decide)).2.2.2.1]; decide +kernel
  rw [q4, bd_some, q5, bd_some, q2, bd_some, y1, bd_some, st_eq, st_eq]
  rfl
end JCJ
