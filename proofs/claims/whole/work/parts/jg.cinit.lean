/-! PURE: the class's constructor, step by step. -/
def cl_ : List (Nat × Int32 × Nat) := [(16, 2000, 0), (15, 2000, 1), (15, 2000, 2)]
def fl_ : List (Nat × Int32 × Nat) := [(13, 2000, 0), (15, 2000, 1), (15, 2000, 2), (13, 2000, 3), (16, 2000, 4), (15, 2000, 5), (13, 2001, 6)]
def xl_ : List (Nat × Int32 × Nat) := [(17, 200, 3), (17, 200, 4), (13, 76, 5), (13, 76, 6)]
def ml_ : List (Nat × Int32 × Nat) := [(14, 64, 4), (14, 512, 5), (16, 16, 6), (14, 2000, 7), (16, 1000, 9)]
def gl_ : List (Nat × Int32 × Nat) := [(14, 1280, 0), (19, 4, 2)]
def A1_ : me_M := mkA 0 0 gl_ (nO mz_0 0)
def A2_ : me_M := wR (mkA 2 0 cl_ (nO A1_ 2)) 0 0 4 (some 0)
def A3_ : me_M := wR (mkA 2 1 cl_ (nO A2_ 2)) 0 0 5 (some 1)
def A4_ : me_M := wR (mkA 3 0 fl_ (nO A3_ 3)) 0 0 6 (some 0)
def A6_ : me_M := wR (wR (mkA 4 0 xl_ (nO A4_ 4)) 4 0 0 (some 0)) 4 0 1 (some 0)
def A7_ : me_M := wR (mkN 8 0 [0, 1, 2, 3, 4] (nO (nO A6_ 7) 8)) 7 0 2 (some 0)
def A8_ : me_M := wR (wR (nO (nO A7_ 10) 11) 10 0 6 (some 5)) 7 0 3 (some 0)
def A9_ : me_M := wR (wR (mkN 7 0 [4, 15, 16, 17, 18] A8_) 7 0 0 (some 0)) 7 0 1 (some 0)
def AX_ : me_M := wR A9_ 4 0 2 (some 0)
/-- behind the first state, up to the second -/
def fB_ (M : me_M) : me_M := wR (wR M 4 0 8 (some 0)) 0 0 7 (some 0)
def fM_ (M : me_M) : me_M := wR (wR (wR (mkA 5 0 ml_ (nO (fB_ M) 5)) 5 0 0 (some 0)) 5 0 1 (some 1)) 5 0 2 (some 0)
def fY_ (M : me_M) : me_M := nO (fM_ M) 6
/-- behind the second state -/
def fC_ (M : me_M) : me_M := wR (wR (wR (wR (wR (wR M 6 0 2 (some 1)) 6 0 3 (some 1)) 6 0 0 (some 0)) 6 0 1 (some 0)) 5 0 3 (some 0)) 5 0 16 (some 0)
def fD_ (M : me_M) : me_M := wI (wR (wR (fC_ M) 5 0 18 (some 2)) 0 0 8 (some 0)) 0 0 10 (-1)
section JCJ
variable {M N : me_M}
theorem g_cl : ∀ x, x ∈ cl_ → mkg x := by unfold mkg; decide +kernel
theorem g_fl : ∀ x, x ∈ fl_ → mkg x := by unfold mkg; decide +kernel
theorem g_xl : ∀ x, x ∈ xl_ → mkg x := by unfold mkg; decide +kernel
theorem g_ml : ∀ x, x ∈ ml_ → mkg x := by unfold mkg; decide +kernel
theorem g_gl : ∀ x, x ∈ gl_ → mkg x := by unfold mkg; decide +kernel
theorem o_ml : ∀ x, x ∈ ml_ → ¬ kS x.1 := by decide +kernel
theorem c_code1 : f_Code_init (nO A1_ 2) (mN A1_ 2) = some (mkA 2 0 cl_ (nO A1_ 2)) := by
  have e : f_Code_init (nO A1_ 2) (mN A1_ 2) = mka 2 0 some cl_ (nO A1_ 2) := rfl
  rw [e]
  exact mka_ok cl_ _ g_cl (by decide +kernel) (by decide +kernel)
theorem c_code2 : f_Code_init (nO A2_ 2) (mN A2_ 2) = some (mkA 2 1 cl_ (nO A2_ 2)) := by
  have e : f_Code_init (nO A2_ 2) (mN A2_ 2) = mka 2 1 some cl_ (nO A2_ 2) := rfl
  rw [e]
  exact mka_ok cl_ _ g_cl (by decide +kernel) (by decide +kernel)
theorem c_facts : f_Facts_init (nO A3_ 3) (mN A3_ 3) = some (mkA 3 0 fl_ (nO A3_ 3)) := by
  have e : f_Facts_init (nO A3_ 3) (mN A3_ 3) = mka 3 0 some fl_ (nO A3_ 3) := rfl
  rw [e]
  exact mka_ok fl_ _ g_fl (by decide +kernel) (by decide +kernel)
theorem c_reck : f_Reckoner_init (nO (nO A6_ 7) 8) (mN (nO A6_ 7) 8) = some (mkN 8 0 [0, 1, 2, 3, 4] (nO (nO A6_ 7) 8)) := by
  have e : f_Reckoner_init (nO (nO A6_ 7) 8) (mN (nO A6_ 7) 8) = mkn 8 0 some [0, 1, 2, 3, 4] (nO (nO A6_ 7) 8) := rfl
  rw [e]
  exact mkn_ok _ _ (by decide +kernel) (by decide +kernel)
theorem c_steps : f_Steps_init (nO A6_ 7) (mN A6_ 7) 0 0 = some A9_ := by
  unfold f_Steps_init
  rw [gd_pos (show me_fit (nO A6_ 7) 8 by decide +kernel), st_eq, c_reck, bd_some, st_eq]
  rw [show wR (mkN 8 0 [0, 1, 2, 3, 4] (nO (nO A6_ 7) 8)) 7 (mN A6_ 7) 2 (some (mN (nO A6_ 7) 8)) = A7_ from rfl]
  rw [gd_pos (show me_fit A7_ 10 by decide +kernel), st_eq]
  have ec : f_Cell_init (nO A7_ 10) (mN A7_ 10) = some (wR (nO (nO A7_ 10) 11) 10 0 6 (some 5)) := by
    unfold f_Cell_init f_Num_init
    rw [gd_pos (show me_fit (nO A7_ 10) 11 by decide +kernel), st_eq, bd_some, st_eq]
    rfl
  rw [ec, bd_some, st_eq]
  rw [show wR (wR (nO (nO A7_ 10) 11) 10 0 6 (some 5)) 7 (mN A6_ 7) 3 (some (mN A7_ 10)) = A8_ from rfl]
  have e : mkn 7 0 (fun M35 => some (wR (wR M35 7 0 0 (some 0)) 7 0 1 (some 0))) [4, 15, 16, 17, 18] A8_ = some A9_ := by
    rw [mkn_ok _ _ (by decide +kernel) (by decide +kernel)]
    rfl
  rw [← e]
  rfl
end JCJ
