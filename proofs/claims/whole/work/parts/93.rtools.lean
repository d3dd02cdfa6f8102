/-! PURE: the reference: its arrays, and a number as six longs at one place of six arrays. -/
def rf_tab : List (Option Nat) := [none, some 0, none, none, none, some 0, some 1, some 2, some 3, some 0, some 1, some 2, none, some 0, none, none, some 1, some 2, none, none, none, none, none, none, none, none, none, some 4, some 1, some 2, some 5, some 3, some 3, some 4, none, some 3, some 4, none, none, some 4, none, none, none, some 5, some 5, some 6, some 7, some 8, some 6, some 7, some 8, some 9, some 6, some 7, some 8, some 9, some 10, some 11, some 10, none, some 11, some 12, none, some 13, some 14, none, some 15, some 16, none, none, none, some 5, some 12, some 17, none]
def rz_tab : List (List Nat) := [[], [], [], [], [], [], [], [], [], [], [], [], [], [4, 4, 4, 4, 2000, 2000, 30081, 30081, 30081, 30081, 25664, 201, 201, 200, 200, 75, 75, 2001], [65536, 4096, 16384, 2000, 64, 512, 64, 64, 30081], [256, 2000, 2000, 2000, 2000, 2001], [2000, 2000, 2000, 2000, 1000, 11, 30081, 30081, 30081, 30081, 30081, 30081, 2000], [], [], []]
/-- the reference's shape: its arrays and their lengths -/
def ps_M (M : me_M) : Prop := (∀ f, mR M 1 0 f = rf_tab.getD f none) ∧ ∀ k j, mZ M k j = (rz_tab.getD k []).getD j 0
theorem ps_M_of {M M1 : me_M} (h : mR M1 = mR M) (g : mZ M1 = mZ M) (e : ps_M M) : ps_M M1 := by unfold ps_M at e ⊢; rw [h, g]; exact e
section RS
variable {M : me_M}
theorem rs_1 (h : ps_M M) : mR M 1 0 1 = some 0 := h.1 1
theorem rs_5 (h : ps_M M) : mR M 1 0 5 = some 0 := h.1 5
theorem rs_6 (h : ps_M M) : mR M 1 0 6 = some 1 := h.1 6
theorem rs_7 (h : ps_M M) : mR M 1 0 7 = some 2 := h.1 7
theorem rs_8 (h : ps_M M) : mR M 1 0 8 = some 3 := h.1 8
theorem rs_9 (h : ps_M M) : mR M 1 0 9 = some 0 := h.1 9
theorem rs_10 (h : ps_M M) : mR M 1 0 10 = some 1 := h.1 10
theorem rs_11 (h : ps_M M) : mR M 1 0 11 = some 2 := h.1 11
theorem rs_13 (h : ps_M M) : mR M 1 0 13 = some 0 := h.1 13
theorem rs_16 (h : ps_M M) : mR M 1 0 16 = some 1 := h.1 16
theorem rs_17 (h : ps_M M) : mR M 1 0 17 = some 2 := h.1 17
theorem rs_27 (h : ps_M M) : mR M 1 0 27 = some 4 := h.1 27
theorem rs_28 (h : ps_M M) : mR M 1 0 28 = some 1 := h.1 28
theorem rs_29 (h : ps_M M) : mR M 1 0 29 = some 2 := h.1 29
theorem rs_30 (h : ps_M M) : mR M 1 0 30 = some 5 := h.1 30
theorem rs_31 (h : ps_M M) : mR M 1 0 31 = some 3 := h.1 31
theorem rs_32 (h : ps_M M) : mR M 1 0 32 = some 3 := h.1 32
theorem rs_33 (h : ps_M M) : mR M 1 0 33 = some 4 := h.1 33
theorem rs_35 (h : ps_M M) : mR M 1 0 35 = some 3 := h.1 35
theorem rs_36 (h : ps_M M) : mR M 1 0 36 = some 4 := h.1 36
theorem rs_39 (h : ps_M M) : mR M 1 0 39 = some 4 := h.1 39
theorem rs_43 (h : ps_M M) : mR M 1 0 43 = some 5 := h.1 43
theorem rs_44 (h : ps_M M) : mR M 1 0 44 = some 5 := h.1 44
theorem rs_45 (h : ps_M M) : mR M 1 0 45 = some 6 := h.1 45
theorem rs_46 (h : ps_M M) : mR M 1 0 46 = some 7 := h.1 46
theorem rs_47 (h : ps_M M) : mR M 1 0 47 = some 8 := h.1 47
theorem rs_48 (h : ps_M M) : mR M 1 0 48 = some 6 := h.1 48
theorem rs_49 (h : ps_M M) : mR M 1 0 49 = some 7 := h.1 49
theorem rs_50 (h : ps_M M) : mR M 1 0 50 = some 8 := h.1 50
theorem rs_51 (h : ps_M M) : mR M 1 0 51 = some 9 := h.1 51
theorem rs_52 (h : ps_M M) : mR M 1 0 52 = some 6 := h.1 52
theorem rs_53 (h : ps_M M) : mR M 1 0 53 = some 7 := h.1 53
theorem rs_54 (h : ps_M M) : mR M 1 0 54 = some 8 := h.1 54
theorem rs_55 (h : ps_M M) : mR M 1 0 55 = some 9 := h.1 55
theorem rs_56 (h : ps_M M) : mR M 1 0 56 = some 10 := h.1 56
theorem rs_57 (h : ps_M M) : mR M 1 0 57 = some 11 := h.1 57
theorem rs_58 (h : ps_M M) : mR M 1 0 58 = some 10 := h.1 58
theorem rs_60 (h : ps_M M) : mR M 1 0 60 = some 11 := h.1 60
theorem rs_61 (h : ps_M M) : mR M 1 0 61 = some 12 := h.1 61
theorem rs_63 (h : ps_M M) : mR M 1 0 63 = some 13 := h.1 63
theorem rs_64 (h : ps_M M) : mR M 1 0 64 = some 14 := h.1 64
theorem rs_66 (h : ps_M M) : mR M 1 0 66 = some 15 := h.1 66
theorem rs_67 (h : ps_M M) : mR M 1 0 67 = some 16 := h.1 67
theorem rs_71 (h : ps_M M) : mR M 1 0 71 = some 5 := h.1 71
theorem rs_72 (h : ps_M M) : mR M 1 0 72 = some 12 := h.1 72
theorem rs_73 (h : ps_M M) : mR M 1 0 73 = some 17 := h.1 73
theorem rz_14_0 (h : ps_M M) : mZ M 14 0 = 65536 := h.2 14 0
theorem rz_14_1 (h : ps_M M) : mZ M 14 1 = 4096 := h.2 14 1
theorem rz_14_2 (h : ps_M M) : mZ M 14 2 = 16384 := h.2 14 2
theorem rz_14_3 (h : ps_M M) : mZ M 14 3 = 2000 := h.2 14 3
theorem rz_14_4 (h : ps_M M) : mZ M 14 4 = 64 := h.2 14 4
theorem rz_14_5 (h : ps_M M) : mZ M 14 5 = 512 := h.2 14 5
theorem rz_14_6 (h : ps_M M) : mZ M 14 6 = 64 := h.2 14 6
theorem rz_14_7 (h : ps_M M) : mZ M 14 7 = 64 := h.2 14 7
theorem rz_14_8 (h : ps_M M) : mZ M 14 8 = 30081 := h.2 14 8
theorem rz_13_0 (h : ps_M M) : mZ M 13 0 = 4 := h.2 13 0
theorem rz_13_1 (h : ps_M M) : mZ M 13 1 = 4 := h.2 13 1
theorem rz_13_2 (h : ps_M M) : mZ M 13 2 = 4 := h.2 13 2
theorem rz_13_3 (h : ps_M M) : mZ M 13 3 = 4 := h.2 13 3
theorem rz_13_4 (h : ps_M M) : mZ M 13 4 = 2000 := h.2 13 4
theorem rz_13_5 (h : ps_M M) : mZ M 13 5 = 2000 := h.2 13 5
theorem rz_13_6 (h : ps_M M) : mZ M 13 6 = 30081 := h.2 13 6
theorem rz_13_7 (h : ps_M M) : mZ M 13 7 = 30081 := h.2 13 7
theorem rz_13_8 (h : ps_M M) : mZ M 13 8 = 30081 := h.2 13 8
theorem rz_13_9 (h : ps_M M) : mZ M 13 9 = 30081 := h.2 13 9
theorem rz_13_10 (h : ps_M M) : mZ M 13 10 = 25664 := h.2 13 10
theorem rz_13_11 (h : ps_M M) : mZ M 13 11 = 201 := h.2 13 11
theorem rz_13_12 (h : ps_M M) : mZ M 13 12 = 201 := h.2 13 12
theorem rz_13_13 (h : ps_M M) : mZ M 13 13 = 200 := h.2 13 13
theorem rz_13_14 (h : ps_M M) : mZ M 13 14 = 200 := h.2 13 14
theorem rz_13_15 (h : ps_M M) : mZ M 13 15 = 75 := h.2 13 15
theorem rz_13_16 (h : ps_M M) : mZ M 13 16 = 75 := h.2 13 16
theorem rz_13_17 (h : ps_M M) : mZ M 13 17 = 2001 := h.2 13 17
theorem rz_15_0 (h : ps_M M) : mZ M 15 0 = 256 := h.2 15 0
theorem rz_15_1 (h : ps_M M) : mZ M 15 1 = 2000 := h.2 15 1
theorem rz_15_2 (h : ps_M M) : mZ M 15 2 = 2000 := h.2 15 2
theorem rz_15_3 (h : ps_M M) : mZ M 15 3 = 2000 := h.2 15 3
theorem rz_15_4 (h : ps_M M) : mZ M 15 4 = 2000 := h.2 15 4
theorem rz_15_5 (h : ps_M M) : mZ M 15 5 = 2001 := h.2 15 5
theorem rz_16_0 (h : ps_M M) : mZ M 16 0 = 2000 := h.2 16 0
theorem rz_16_1 (h : ps_M M) : mZ M 16 1 = 2000 := h.2 16 1
theorem rz_16_2 (h : ps_M M) : mZ M 16 2 = 2000 := h.2 16 2
theorem rz_16_3 (h : ps_M M) : mZ M 16 3 = 2000 := h.2 16 3
theorem rz_16_4 (h : ps_M M) : mZ M 16 4 = 1000 := h.2 16 4
theorem rz_16_5 (h : ps_M M) : mZ M 16 5 = 11 := h.2 16 5
theorem rz_16_6 (h : ps_M M) : mZ M 16 6 = 30081 := h.2 16 6
theorem rz_16_7 (h : ps_M M) : mZ M 16 7 = 30081 := h.2 16 7
theorem rz_16_8 (h : ps_M M) : mZ M 16 8 = 30081 := h.2 16 8
theorem rz_16_9 (h : ps_M M) : mZ M 16 9 = 30081 := h.2 16 9
theorem rz_16_10 (h : ps_M M) : mZ M 16 10 = 30081 := h.2 16 10
theorem rz_16_11 (h : ps_M M) : mZ M 16 11 = 30081 := h.2 16 11
theorem rz_16_12 (h : ps_M M) : mZ M 16 12 = 2000 := h.2 16 12
end RS
def rn_put (M : me_M) (i : Nat) (a b c d e f : Int64) : me_M := wL (wL (wL (wL (wL (wL M 16 6 i a) 16 7 i b) 16 8 i c) 16 9 i d) 16 10 i e) 16 11 i f
def rt (M : me_M) (i : Nat) (x : fn_N) : me_M := rn_put M i x.1 x.2.1 x.2.2.1 x.2.2.2.1 x.2.2.2.2.1 x.2.2.2.2.2
def rg (M : me_M) (i : Nat) : fn_N := (mL M 16 6 i, mL M 16 7 i, mL M 16 8 i, mL M 16 9 i, mL M 16 10 i, mL M 16 11 i)
section RN
variable {M : me_M} {i j k l m q : Nat} {a b c d e f v w : Int64}
theorem rn_I : mI (rn_put M i a b c d e f) = mI M := rfl
theorem rn_R : mR (rn_put M i a b c d e f) = mR M := rfl
theorem rn_N : mN (rn_put M i a b c d e f) = mN M := rfl
theorem rn_Z : mZ (rn_put M i a b c d e f) = mZ M := rfl
theorem rL_a (h : ¬ l = j) : mL (wL M 16 j i v) 16 l q = mL M 16 l q := if_neg (fun z => h z.2.1)
theorem rL_s : mL (wL M 16 j i v) 16 j q = if q = i then v else mL M 16 j q := by
  by_cases h : q = i
  · rw [if_pos h]; exact if_pos ⟨rfl, rfl, h⟩
  · rw [if_neg h]; exact if_neg (fun z => h z.2.2)
theorem rL_w (h : ¬ (l = j ∧ q = i)) : wL (wL M 16 j i v) 16 l q w = wL (wL M 16 l q w) 16 j i v := me_ext rfl (by
  funext X Y Z
  show (if X = 16 ∧ Y = l ∧ Z = q then w else if X = 16 ∧ Y = j ∧ Z = i then v else mL M X Y Z) = if X = 16 ∧ Y = j ∧ Z = i then v else if X = 16 ∧ Y = l ∧ Z = q then w else mL M X Y Z
  by_cases h1 : X = 16 ∧ Y = j ∧ Z = i
  · rw [if_pos h1, if_pos h1, if_neg (fun r => h ⟨r.2.1.symm.trans h1.2.1, r.2.2.symm.trans h1.2.2⟩)]
  · rw [if_neg h1, if_neg h1]) rfl rfl rfl
theorem rn_0 : mL (rn_put M i a b c d e f) 16 6 q = if q = i then a else mL M 16 6 q := by
  unfold rn_put
  rw [rL_a (by decide), rL_a (by decide), rL_a (by decide), rL_a (by decide), rL_a (by decide), rL_s]
theorem rn_w0 : wL (rn_put M i a b c d e f) 16 6 i v = rn_put M i v b c d e f := by
  unfold rn_put
  rw [rL_w (j := 11) (l := 6) (fun z => absurd z.1 (by decide)), rL_w (j := 10) (l := 6) (fun z => absurd z.1 (by decide)), rL_w (j := 9) (l := 6) (fun z => absurd z.1 (by decide)), rL_w (j := 8) (l := 6) (fun z => absurd z.1 (by decide)), rL_w (j := 7) (l := 6) (fun z => absurd z.1 (by decide)), pL_two]
theorem rn_1 : mL (rn_put M i a b c d e f) 16 7 q = if q = i then b else mL M 16 7 q := by
  unfold rn_put
  rw [rL_a (by decide), rL_a (by decide), rL_a (by decide), rL_a (by decide), rL_s, rL_a (by decide)]
theorem rn_w1 : wL (rn_put M i a b c d e f) 16 7 i v = rn_put M i a v c d e f := by
  unfold rn_put
  rw [rL_w (j := 11) (l := 7) (fun z => absurd z.1 (by decide)), rL_w (j := 10) (l := 7) (fun z => absurd z.1 (by decide)), rL_w (j := 9) (l := 7) (fun z => absurd z.1 (by decide)), rL_w (j := 8) (l := 7) (fun z => absurd z.1 (by decide)), pL_two]
theorem rn_2 : mL (rn_put M i a b c d e f) 16 8 q = if q = i then c else mL M 16 8 q := by
  unfold rn_put
  rw [rL_a (by decide), rL_a (by decide), rL_a (by decide), rL_s, rL_a (by decide), rL_a (by decide)]
theorem rn_w2 : wL (rn_put M i a b c d e f) 16 8 i v = rn_put M i a b v d e f := by
  unfold rn_put
  rw [rL_w (j := 11) (l := 8) (fun z => absurd z.1 (by decide)), rL_w (j := 10) (l := 8) (fun z => absurd z.1 (by decide)), rL_w (j := 9) (l := 8) (fun z => absurd z.1 (by decide)), pL_two]
theorem rn_3 : mL (rn_put M i a b c d e f) 16 9 q = if q = i then d else mL M 16 9 q := by
  unfold rn_put
  rw [rL_a (by decide), rL_a (by decide), rL_s, rL_a (by decide), rL_a (by decide), rL_a (by decide)]
theorem rn_w3 : wL (rn_put M i a b c d e f) 16 9 i v = rn_put M i a b c v e f := by
  unfold rn_put
  rw [rL_w (j := 11) (l := 9) (fun z => absurd z.1 (by decide)), rL_w (j := 10) (l := 9) (fun z => absurd z.1 (by decide)), pL_two]
theorem rn_4 : mL (rn_put M i a b c d e f) 16 10 q = if q = i then e else mL M 16 10 q := by
  unfold rn_put
  rw [rL_a (by decide), rL_s, rL_a (by decide), rL_a (by decide), rL_a (by decide), rL_a (by decide)]
theorem rn_w4 : wL (rn_put M i a b c d e f) 16 10 i v = rn_put M i a b c d v f := by
  unfold rn_put
  rw [rL_w (j := 11) (l := 10) (fun z => absurd z.1 (by decide)), pL_two]
theorem rn_5 : mL (rn_put M i a b c d e f) 16 11 q = if q = i then f else mL M 16 11 q := by
  unfold rn_put
  rw [rL_s, rL_a (by decide), rL_a (by decide), rL_a (by decide), rL_a (by decide), rL_a (by decide)]
theorem rn_w5 : wL (rn_put M i a b c d e f) 16 11 i v = rn_put M i a b c d e v := by
  unfold rn_put
  rw [pL_two]
theorem rn_wc (h : ¬ q = i) : wL (rn_put M i a b c d e f) 16 l q v = rn_put (wL M 16 l q v) i a b c d e f := by
  have z : ∀ N k w, wL (wL N 16 k i w) 16 l q v = wL (wL N 16 l q v) 16 k i w := fun N k w => rL_w (fun r => h r.2)
  unfold rn_put
  rw [z, z, z, z, z, z]
theorem rn_x (h : l < 6 ∨ 11 < l) : mL (rn_put M i a b c d e f) 16 l q = mL M 16 l q := by
  unfold rn_put
  rw [rL_a (by omega), rL_a (by omega), rL_a (by omega), rL_a (by omega), rL_a (by omega), rL_a (by omega)]
theorem rn_id : rn_put M i (mL M 16 6 i) (mL M 16 7 i) (mL M 16 8 i) (mL M 16 9 i) (mL M 16 10 i) (mL M 16 11 i) = M := by
  unfold rn_put
  rw [pL_id, pL_id, pL_id, pL_id, pL_id, pL_id]
theorem rn_two {a2 b2 c2 d2 e2 f2 : Int64} : rn_put (rn_put M i a b c d e f) i a2 b2 c2 d2 e2 f2 = rn_put M i a2 b2 c2 d2 e2 f2 := by
  rw [show rn_put (rn_put M i a b c d e f) i a2 b2 c2 d2 e2 f2 = wL (wL (wL (wL (wL (wL (rn_put M i a b c d e f) 16 6 i a2) 16 7 i b2) 16 8 i c2) 16 9 i d2) 16 10 i e2) 16 11 i f2 from rfl, rn_w0, rn_w1, rn_w2, rn_w3, rn_w4, rn_w5]
theorem rn_cm {a2 b2 c2 d2 e2 f2 : Int64} (h : ¬ q = i) : rn_put (rn_put M i a b c d e f) q a2 b2 c2 d2 e2 f2 = rn_put (rn_put M q a2 b2 c2 d2 e2 f2) i a b c d e f := by
  rw [show rn_put (rn_put M i a b c d e f) q a2 b2 c2 d2 e2 f2 = wL (wL (wL (wL (wL (wL (rn_put M i a b c d e f) 16 6 q a2) 16 7 q b2) 16 8 q c2) 16 9 q d2) 16 10 q e2) 16 11 q f2 from rfl, rn_wc h, rn_wc h, rn_wc h, rn_wc h, rn_wc h, rn_wc h]
  rfl
theorem rt_id : rt M i (rg M i) = M := rn_id
theorem rg_t {x : fn_N} : rg (rt M i x) i = x := by
  unfold rg rt
  rw [rn_0, rn_1, rn_2, rn_3, rn_4, rn_5, if_pos rfl, if_pos rfl, if_pos rfl, if_pos rfl, if_pos rfl, if_pos rfl]
theorem rg_L {x : fn_N} (h : ¬ q = i) : rg (rt M i x) q = rg M q := by
  unfold rg rt
  rw [rn_0, rn_1, rn_2, rn_3, rn_4, rn_5, if_neg h, if_neg h, if_neg h, if_neg h, if_neg h, if_neg h]
theorem rt_two {x y : fn_N} : rt (rt M i x) i y = rt M i y := rn_two
theorem rt_cm {x y : fn_N} (h : ¬ q = i) : rt (rt M i x) q y = rt (rt M q y) i x := rn_cm h
theorem ps_t {x : fn_N} (h : ps_M M) : ps_M (rt M i x) := ps_M_of rfl rfl h
end RN
/-- an int is the place i of the numbers -/
def ok (x : Int32) (i : Nat) : Prop := ¬ x < 0 ∧ x.toNatClampNeg = i ∧ i < 30081
theorem ok_X : ok 30075 30075 := by unfold ok; decide
theorem ok_Y : ok 30076 30076 := by unfold ok; decide
theorem ok_R : ok 30077 30077 := by unfold ok; decide
theorem ok_F : ok 30078 30078 := by unfold ok; decide
theorem ok_S : ok 30079 30079 := by unfold ok; decide
theorem ok_U : ok 30080 30080 := by unfold ok; decide
theorem ok_g {x : Int32} {i : Nat} (h : ok x i) : (¬ (x < 0 ∨ 30081 ≤ i)) = True := eq_true (fun z => z.elim h.1 (by have := h.2.2; omega))
section RM
variable {M : me_M} {i j : Nat} {x y : Int32} {a b c d e f v w : Int64}
theorem pm_below : f_M_below v w = some (if fn_lt v w then 1 else 0) := by
  unfold f_M_below
  by_cases h : fn_lt v w
  · rw [if_pos (fn_lt_a.mpr h), if_pos h]
  · rw [if_neg (fun z => h (fn_lt_a.mp z)), if_neg h]
theorem pm_lesser : f_M_lesser v w = some (fn_min v w) := by
  unfold f_M_lesser
  rw [pm_below, bd_some, fn_min_c]
  by_cases h : fn_lt v w
  · rw [if_pos h, if_pos h, if_neg (by decide)]
  · rw [if_neg h, if_neg h, if_pos rfl]
theorem pm_greater : f_M_greater v w = some (fn_max v w) := by
  unfold f_M_greater fn_max
  rw [pm_below, bd_some]
  by_cases h : fn_lt v w
  · rw [if_pos h, if_pos h, if_neg (by decide)]
  · rw [if_neg h, if_neg h, if_pos rfl]
theorem pm_copy (h : ps_M M) (hx : ok x i) (hy : ok y j) : f_M_copyNumber M 0 x y = some (rt M j (rg M i)) := by
  unfold f_M_copyNumber
  simp only [bd_some, b2_some, st_eq, rs_52 h, rs_53 h, rs_54 h, rs_55 h, rs_56 h, rs_57 h, rz_16_6 h, rz_16_7 h, rz_16_8 h, rz_16_9 h, rz_16_10 h, rz_16_11 h, gd, rn_R, rn_Z, pR_L, pZ_L, hx.2.1, hy.2.1, ok_g hx, ok_g hy, if_true]
  unfold rt rg rn_put
  simp only [rL_a, Nat.reduceEqDiff, not_false_iff]
theorem pm_any (h : ps_M M) (hx : ok x i) : f_M_setAny M 0 x = some (rt M i fn_any) := by
  unfold f_M_setAny
  simp only [bd_some, b2_some, st_eq, rs_52 h, rs_53 h, rs_54 h, rs_55 h, rs_56 h, rs_57 h, rz_16_6 h, rz_16_7 h, rz_16_8 h, rz_16_9 h, rz_16_10 h, rz_16_11 h, gd, rn_R, rn_Z, pR_L, pZ_L, hx.2.1, ok_g hx, if_true]
  rfl
theorem pm_exact (h : ps_M M) (hx : ok x i) : f_M_setExact M 0 x v = some (rt M i (fn_ex v)) := by
  unfold f_M_setExact
  simp only [bd_some, b2_some, st_eq, rs_52 h, rs_53 h, rs_54 h, rs_55 h, rs_56 h, rs_57 h, rz_16_6 h, rz_16_7 h, rz_16_8 h, rz_16_9 h, rz_16_10 h, rz_16_11 h, gd, rn_R, rn_Z, pR_L, pZ_L, hx.2.1, ok_g hx, if_true]
  rfl
theorem pm_isExact (h : ps_M M) (hx : ok x i) : f_M_isExact M 0 x = some (M, if (rg M i).2.1 = 0 then 1 else 0) := by
  unfold f_M_isExact rg
  simp only [bd_some, b2_some, st_eq, rs_52 h, rs_53 h, rs_54 h, rs_55 h, rs_56 h, rs_57 h, rz_16_6 h, rz_16_7 h, rz_16_8 h, rz_16_9 h, rz_16_10 h, rz_16_11 h, gd, rn_R, rn_Z, pR_L, pZ_L, hx.2.1, ok_g hx, if_true]
  split <;> rfl
theorem pm_isEmpty (h : ps_M M) (hx : ok x i) : f_M_isEmpty M 0 x = some (M, if fn_lt (rg M i).2.2.2.1 (rg M i).2.2.1 ∨ (rg M i).2.2.2.2.2 < (rg M i).2.2.2.2.1 then 1 else 0) := by
  unfold f_M_isEmpty rg
  simp only [bd_some, b2_some, st_eq, rs_52 h, rs_53 h, rs_54 h, rs_55 h, rs_56 h, rs_57 h, rz_16_6 h, rz_16_7 h, rz_16_8 h, rz_16_9 h, rz_16_10 h, rz_16_11 h, gd, rn_R, rn_Z, pR_L, pZ_L, hx.2.1, ok_g hx, if_true, pm_below]
  by_cases g1 : fn_lt (mL M 16 9 i) (mL M 16 8 i) <;> by_cases g2 : mL M 16 11 i < mL M 16 10 i <;> simp [g1, g2]
end RM
