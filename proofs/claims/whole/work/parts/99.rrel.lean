/-! PURE: what the reference's relations tell of numbers is fn_tell. -/
section RT
variable {M : me_M} {x y : Nat} {X Y : Int32} {n1 n2 n3 n4 n5 n6 o1 o2 o3 o4 o5 o6 v w : Int64}
/-- two numbers told, or none -/
def rr_o (M M0 : me_M) (x y : Nat) (r : fn_NN) : Option (me_M × Int32) := match r with
  | none => some (M0, 0)
  | some q => some (rt (rt M y q.2) x q.1, 1)
theorem rx_0 : mL (rn_put (rn_put M y o1 o2 o3 o4 o5 o6) x n1 n2 n3 n4 n5 n6) 16 6 x = n1 := by rw [rn_0, if_pos rfl]
theorem ry_0 (g : ¬ y = x) : mL (rn_put (rn_put M y o1 o2 o3 o4 o5 o6) x n1 n2 n3 n4 n5 n6) 16 6 y = o1 := by rw [rn_0, if_neg g, rn_0, if_pos rfl]
theorem wx_0 : wL (rn_put (rn_put M y o1 o2 o3 o4 o5 o6) x n1 n2 n3 n4 n5 n6) 16 6 x v = rn_put (rn_put M y o1 o2 o3 o4 o5 o6) x v n2 n3 n4 n5 n6 := rn_w0
theorem wy_0 (g : ¬ y = x) : wL (rn_put (rn_put M y o1 o2 o3 o4 o5 o6) x n1 n2 n3 n4 n5 n6) 16 6 y v = rn_put (rn_put M y v o2 o3 o4 o5 o6) x n1 n2 n3 n4 n5 n6 := by rw [rn_wc g, rn_w0]
theorem rx_1 : mL (rn_put (rn_put M y o1 o2 o3 o4 o5 o6) x n1 n2 n3 n4 n5 n6) 16 7 x = n2 := by rw [rn_1, if_pos rfl]
theorem ry_1 (g : ¬ y = x) : mL (rn_put (rn_put M y o1 o2 o3 o4 o5 o6) x n1 n2 n3 n4 n5 n6) 16 7 y = o2 := by rw [rn_1, if_neg g, rn_1, if_pos rfl]
theorem wx_1 : wL (rn_put (rn_put M y o1 o2 o3 o4 o5 o6) x n1 n2 n3 n4 n5 n6) 16 7 x v = rn_put (rn_put M y o1 o2 o3 o4 o5 o6) x n1 v n3 n4 n5 n6 := rn_w1
theorem wy_1 (g : ¬ y = x) : wL (rn_put (rn_put M y o1 o2 o3 o4 o5 o6) x n1 n2 n3 n4 n5 n6) 16 7 y v = rn_put (rn_put M y o1 v o3 o4 o5 o6) x n1 n2 n3 n4 n5 n6 := by rw [rn_wc g, rn_w1]
theorem rx_2 : mL (rn_put (rn_put M y o1 o2 o3 o4 o5 o6) x n1 n2 n3 n4 n5 n6) 16 8 x = n3 := by rw [rn_2, if_pos rfl]
theorem ry_2 (g : ¬ y = x) : mL (rn_put (rn_put M y o1 o2 o3 o4 o5 o6) x n1 n2 n3 n4 n5 n6) 16 8 y = o3 := by rw [rn_2, if_neg g, rn_2, if_pos rfl]
theorem wx_2 : wL (rn_put (rn_put M y o1 o2 o3 o4 o5 o6) x n1 n2 n3 n4 n5 n6) 16 8 x v = rn_put (rn_put M y o1 o2 o3 o4 o5 o6) x n1 n2 v n4 n5 n6 := rn_w2
theorem wy_2 (g : ¬ y = x) : wL (rn_put (rn_put M y o1 o2 o3 o4 o5 o6) x n1 n2 n3 n4 n5 n6) 16 8 y v = rn_put (rn_put M y o1 o2 v o4 o5 o6) x n1 n2 n3 n4 n5 n6 := by rw [rn_wc g, rn_w2]
theorem rx_3 : mL (rn_put (rn_put M y o1 o2 o3 o4 o5 o6) x n1 n2 n3 n4 n5 n6) 16 9 x = n4 := by rw [rn_3, if_pos rfl]
theorem ry_3 (g : ¬ y = x) : mL (rn_put (rn_put M y o1 o2 o3 o4 o5 o6) x n1 n2 n3 n4 n5 n6) 16 9 y = o4 := by rw [rn_3, if_neg g, rn_3, if_pos rfl]
theorem wx_3 : wL (rn_put (rn_put M y o1 o2 o3 o4 o5 o6) x n1 n2 n3 n4 n5 n6) 16 9 x v = rn_put (rn_put M y o1 o2 o3 o4 o5 o6) x n1 n2 n3 v n5 n6 := rn_w3
theorem wy_3 (g : ¬ y = x) : wL (rn_put (rn_put M y o1 o2 o3 o4 o5 o6) x n1 n2 n3 n4 n5 n6) 16 9 y v = rn_put (rn_put M y o1 o2 o3 v o5 o6) x n1 n2 n3 n4 n5 n6 := by rw [rn_wc g, rn_w3]
theorem rx_4 : mL (rn_put (rn_put M y o1 o2 o3 o4 o5 o6) x n1 n2 n3 n4 n5 n6) 16 10 x = n5 := by rw [rn_4, if_pos rfl]
theorem ry_4 (g : ¬ y = x) : mL (rn_put (rn_put M y o1 o2 o3 o4 o5 o6) x n1 n2 n3 n4 n5 n6) 16 10 y = o5 := by rw [rn_4, if_neg g, rn_4, if_pos rfl]
theorem wx_4 : wL (rn_put (rn_put M y o1 o2 o3 o4 o5 o6) x n1 n2 n3 n4 n5 n6) 16 10 x v = rn_put (rn_put M y o1 o2 o3 o4 o5 o6) x n1 n2 n3 n4 v n6 := rn_w4
theorem wy_4 (g : ¬ y = x) : wL (rn_put (rn_put M y o1 o2 o3 o4 o5 o6) x n1 n2 n3 n4 n5 n6) 16 10 y v = rn_put (rn_put M y o1 o2 o3 o4 v o6) x n1 n2 n3 n4 n5 n6 := by rw [rn_wc g, rn_w4]
theorem rx_5 : mL (rn_put (rn_put M y o1 o2 o3 o4 o5 o6) x n1 n2 n3 n4 n5 n6) 16 11 x = n6 := by rw [rn_5, if_pos rfl]
theorem ry_5 (g : ¬ y = x) : mL (rn_put (rn_put M y o1 o2 o3 o4 o5 o6) x n1 n2 n3 n4 n5 n6) 16 11 y = o6 := by rw [rn_5, if_neg g, rn_5, if_pos rfl]
theorem wx_5 : wL (rn_put (rn_put M y o1 o2 o3 o4 o5 o6) x n1 n2 n3 n4 n5 n6) 16 11 x v = rn_put (rn_put M y o1 o2 o3 o4 o5 o6) x n1 n2 n3 n4 n5 v := rn_w5
theorem wy_5 (g : ¬ y = x) : wL (rn_put (rn_put M y o1 o2 o3 o4 o5 o6) x n1 n2 n3 n4 n5 n6) 16 11 y v = rn_put (rn_put M y o1 o2 o3 o4 o5 v) x n1 n2 n3 n4 n5 n6 := by rw [rn_wc g, rn_w5]
theorem po_130 (h : ps_M M) (hX : ok X x) (hY : ok Y y) (g : ¬ y = x) : f_M_orders_b130 0 Y (rn_put (rn_put M y o1 o2 o3 o4 o5 o6) x n1 n2 n3 n4 n5 n6) w v X 10 = some (rn_put (rn_put M y o1 o2 o3 o4 o5 (fn_smin o6 w)) x n1 n2 n3 n4 v n6, 1) := by
  unfold f_M_orders_b130
  simp only [bd_some, b2_some, st_eq, rs_52 h, rs_53 h, rs_54 h, rs_55 h, rs_56 h, rs_57 h, rz_16_6 h, rz_16_7 h, rz_16_8 h, rz_16_9 h, rz_16_10 h, rz_16_11 h, rn_R, rn_Z, pR_L, pZ_L, if_true, gd, hX.2.1, ok_g hX, hY.2.1, ok_g hY, rx_0, ry_0 g, wx_0, wy_0 g, rx_1, ry_1 g, wx_1, wy_1 g, rx_2, ry_2 g, wx_2, wy_2 g, rx_3, ry_3 g, wx_3, wy_3 g, rx_4, ry_4 g, wx_4, wy_4 g, rx_5, ry_5 g, wx_5, wy_5 g]
  rw [fn_smin_c]
  by_cases c : o6 < w
  · rw [if_pos c, if_pos c]
  · rw [if_neg c, if_neg c]
theorem po_73 (h : ps_M M) (hX : ok X x) (hY : ok Y y) (g : ¬ y = x) {sg : Int32} : f_M_orders_b73 0 X Y sg (rn_put (rn_put M y o1 o2 o3 o4 o5 o6) x n1 n2 n3 n4 n5 n6) v = if sg = 0 then some (rn_put (rn_put M y o1 o2 o3 (fn_min o4 (n4 - v)) o5 o6) x n1 n2 (fn_max n3 (o3 + v)) n4 n5 n6, 1) else some (rn_put (rn_put M y o1 o2 o3 o4 o5 (fn_smin o6 (n6 - v))) x n1 n2 n3 n4 (fn_smax n5 (o5 + v)) n6, 1) := by
  unfold f_M_orders_b73
  simp only [bd_some, b2_some, st_eq, rs_52 h, rs_53 h, rs_54 h, rs_55 h, rs_56 h, rs_57 h, rz_16_6 h, rz_16_7 h, rz_16_8 h, rz_16_9 h, rz_16_10 h, rz_16_11 h, rn_R, rn_Z, pR_L, pZ_L, if_true, gd, hX.2.1, ok_g hX, hY.2.1, ok_g hY, rx_0, ry_0 g, wx_0, wy_0 g, rx_1, ry_1 g, wx_1, wy_1 g, rx_2, ry_2 g, wx_2, wy_2 g, rx_3, ry_3 g, wx_3, wy_3 g, rx_4, ry_4 g, wx_4, wy_4 g, rx_5, ry_5 g, wx_5, wy_5 g, pm_greater, pm_lesser, po_130 h hX hY g]
  by_cases c : sg = 0
  · rw [if_pos c, if_pos c]
  · rw [if_neg c, if_neg c]
    unfold fn_smax
    by_cases c2 : o5 + v < n5
    · rw [if_pos c2, if_pos c2]
    · rw [if_neg c2, if_neg c2]
theorem po_u0 (h : ps_M M) (hX : ok X x) (hY : ok Y y) (g : ¬ y = x) : f_M_orders (rn_put (rn_put M y o1 o2 o3 o4 o5 o6) x n1 n2 n3 n4 n5 n6) 0 X Y 0 0 = rr_o M (rn_put (rn_put M y o1 o2 o3 o4 o5 o6) x n1 n2 n3 n4 n5 n6) x y (fn_nbelow n1 n2 n3 n4 n5 n6 o1 o2 o3 o4 o5 o6) := by
  unfold f_M_orders f_M_orders_b64
  rw [if_pos rfl, if_pos rfl, po_73 h hX hY g, if_pos rfl, Int64.add_zero, Int64.sub_zero]
  rfl
theorem po_s0 (h : ps_M M) (hX : ok X x) (hY : ok Y y) (g : ¬ y = x) : f_M_orders (rn_put (rn_put M y o1 o2 o3 o4 o5 o6) x n1 n2 n3 n4 n5 n6) 0 X Y 0 1 = rr_o M (rn_put (rn_put M y o1 o2 o3 o4 o5 o6) x n1 n2 n3 n4 n5 n6) x y (fn_nless n1 n2 n3 n4 n5 n6 o1 o2 o3 o4 o5 o6) := by
  unfold f_M_orders f_M_orders_b64
  rw [if_pos rfl, if_pos rfl, po_73 h hX hY g, if_neg (by decide), Int64.add_zero, Int64.sub_zero]
  rfl
theorem po_u1 (h : ps_M M) (hX : ok X x) (hY : ok Y y) (g : ¬ y = x) : f_M_orders (rn_put (rn_put M y o1 o2 o3 o4 o5 o6) x n1 n2 n3 n4 n5 n6) 0 X Y 1 0 = rr_o M (rn_put (rn_put M y o1 o2 o3 o4 o5 o6) x n1 n2 n3 n4 n5 n6) x y (fn_above n1 n2 n3 n4 n5 n6 o1 o2 o3 o4 o5 o6) := by
  unfold f_M_orders f_M_orders_b64 fn_above
  rw [if_neg (by decide), if_pos rfl, if_neg (by decide), po_73 h hX hY g, if_pos rfl]
  simp only [bd_some, b2_some, st_eq, rs_52 h, rs_53 h, rs_54 h, rs_55 h, rs_56 h, rs_57 h, rz_16_6 h, rz_16_7 h, rz_16_8 h, rz_16_9 h, rz_16_10 h, rz_16_11 h, rn_R, rn_Z, pR_L, pZ_L, if_true, gd, hX.2.1, ok_g hX, hY.2.1, ok_g hY, rx_0, ry_0 g, wx_0, wy_0 g, rx_1, ry_1 g, wx_1, wy_1 g, rx_2, ry_2 g, wx_2, wy_2 g, rx_3, ry_3 g, wx_3, wy_3 g, rx_4, ry_4 g, wx_4, wy_4 g, rx_5, ry_5 g, wx_5, wy_5 g]
  by_cases c : o3 = -1
  · rw [if_pos c, if_pos c]; rfl
  · rw [if_neg c, if_neg c]
    by_cases c2 : n4 = 0
    · rw [if_pos c2, if_pos c2]; rfl
    · rw [if_neg c2, if_neg c2]; rfl
theorem po_s1 (h : ps_M M) (hX : ok X x) (hY : ok Y y) (g : ¬ y = x) : f_M_orders (rn_put (rn_put M y o1 o2 o3 o4 o5 o6) x n1 n2 n3 n4 n5 n6) 0 X Y 1 1 = rr_o M (rn_put (rn_put M y o1 o2 o3 o4 o5 o6) x n1 n2 n3 n4 n5 n6) x y (fn_greater n1 n2 n3 n4 n5 n6 o1 o2 o3 o4 o5 o6) := by
  unfold f_M_orders f_M_orders_b64 fn_greater
  rw [if_neg (by decide), if_neg (by decide), if_neg (by decide), po_73 h hX hY g, if_neg (by decide)]
  simp only [bd_some, b2_some, st_eq, rs_52 h, rs_53 h, rs_54 h, rs_55 h, rs_56 h, rs_57 h, rz_16_6 h, rz_16_7 h, rz_16_8 h, rz_16_9 h, rz_16_10 h, rz_16_11 h, rn_R, rn_Z, pR_L, pZ_L, if_true, gd, hX.2.1, ok_g hX, hY.2.1, ok_g hY, rx_0, ry_0 g, wx_0, wy_0 g, rx_1, ry_1 g, wx_1, wy_1 g, rx_2, ry_2 g, wx_2, wy_2 g, rx_3, ry_3 g, wx_3, wy_3 g, rx_4, ry_4 g, wx_4, wy_4 g, rx_5, ry_5 g, wx_5, wy_5 g]
  by_cases c : o5 = 9223372036854775807
  · rw [if_pos c, if_pos c]; rfl
  · rw [if_neg c, if_neg c]
    by_cases c2 : n6 = -9223372036854775808
    · rw [if_pos c2, if_pos c2]; rfl
    · rw [if_neg c2, if_neg c2]; rfl
end RT
section RL
variable {M : me_M} {n1 n2 n3 n4 n5 n6 o1 o2 o3 o4 o5 o6 v w : Int64}
theorem yx : ¬ (30076 : Nat) = 30075 := by decide
theorem lx_0 : mL (rn_put (rn_put M 30076 o1 o2 o3 o4 o5 o6) 30075 n1 n2 n3 n4 n5 n6) 16 6 30075 = n1 := rx_0
theorem ly_0 : mL (rn_put (rn_put M 30076 o1 o2 o3 o4 o5 o6) 30075 n1 n2 n3 n4 n5 n6) 16 6 30076 = o1 := ry_0 yx
theorem mx_0 : wL (rn_put (rn_put M 30076 o1 o2 o3 o4 o5 o6) 30075 n1 n2 n3 n4 n5 n6) 16 6 30075 v = rn_put (rn_put M 30076 o1 o2 o3 o4 o5 o6) 30075 v n2 n3 n4 n5 n6 := wx_0
theorem my_0 : wL (rn_put (rn_put M 30076 o1 o2 o3 o4 o5 o6) 30075 n1 n2 n3 n4 n5 n6) 16 6 30076 v = rn_put (rn_put M 30076 v o2 o3 o4 o5 o6) 30075 n1 n2 n3 n4 n5 n6 := wy_0 yx
theorem lx_1 : mL (rn_put (rn_put M 30076 o1 o2 o3 o4 o5 o6) 30075 n1 n2 n3 n4 n5 n6) 16 7 30075 = n2 := rx_1
theorem ly_1 : mL (rn_put (rn_put M 30076 o1 o2 o3 o4 o5 o6) 30075 n1 n2 n3 n4 n5 n6) 16 7 30076 = o2 := ry_1 yx
theorem mx_1 : wL (rn_put (rn_put M 30076 o1 o2 o3 o4 o5 o6) 30075 n1 n2 n3 n4 n5 n6) 16 7 30075 v = rn_put (rn_put M 30076 o1 o2 o3 o4 o5 o6) 30075 n1 v n3 n4 n5 n6 := wx_1
theorem my_1 : wL (rn_put (rn_put M 30076 o1 o2 o3 o4 o5 o6) 30075 n1 n2 n3 n4 n5 n6) 16 7 30076 v = rn_put (rn_put M 30076 o1 v o3 o4 o5 o6) 30075 n1 n2 n3 n4 n5 n6 := wy_1 yx
theorem lx_2 : mL (rn_put (rn_put M 30076 o1 o2 o3 o4 o5 o6) 30075 n1 n2 n3 n4 n5 n6) 16 8 30075 = n3 := rx_2
theorem ly_2 : mL (rn_put (rn_put M 30076 o1 o2 o3 o4 o5 o6) 30075 n1 n2 n3 n4 n5 n6) 16 8 30076 = o3 := ry_2 yx
theorem mx_2 : wL (rn_put (rn_put M 30076 o1 o2 o3 o4 o5 o6) 30075 n1 n2 n3 n4 n5 n6) 16 8 30075 v = rn_put (rn_put M 30076 o1 o2 o3 o4 o5 o6) 30075 n1 n2 v n4 n5 n6 := wx_2
theorem my_2 : wL (rn_put (rn_put M 30076 o1 o2 o3 o4 o5 o6) 30075 n1 n2 n3 n4 n5 n6) 16 8 30076 v = rn_put (rn_put M 30076 o1 o2 v o4 o5 o6) 30075 n1 n2 n3 n4 n5 n6 := wy_2 yx
theorem lx_3 : mL (rn_put (rn_put M 30076 o1 o2 o3 o4 o5 o6) 30075 n1 n2 n3 n4 n5 n6) 16 9 30075 = n4 := rx_3
theorem ly_3 : mL (rn_put (rn_put M 30076 o1 o2 o3 o4 o5 o6) 30075 n1 n2 n3 n4 n5 n6) 16 9 30076 = o4 := ry_3 yx
theorem mx_3 : wL (rn_put (rn_put M 30076 o1 o2 o3 o4 o5 o6) 30075 n1 n2 n3 n4 n5 n6) 16 9 30075 v = rn_put (rn_put M 30076 o1 o2 o3 o4 o5 o6) 30075 n1 n2 n3 v n5 n6 := wx_3
theorem my_3 : wL (rn_put (rn_put M 30076 o1 o2 o3 o4 o5 o6) 30075 n1 n2 n3 n4 n5 n6) 16 9 30076 v = rn_put (rn_put M 30076 o1 o2 o3 v o5 o6) 30075 n1 n2 n3 n4 n5 n6 := wy_3 yx
theorem lx_4 : mL (rn_put (rn_put M 30076 o1 o2 o3 o4 o5 o6) 30075 n1 n2 n3 n4 n5 n6) 16 10 30075 = n5 := rx_4
theorem ly_4 : mL (rn_put (rn_put M 30076 o1 o2 o3 o4 o5 o6) 30075 n1 n2 n3 n4 n5 n6) 16 10 30076 = o5 := ry_4 yx
theorem mx_4 : wL (rn_put (rn_put M 30076 o1 o2 o3 o4 o5 o6) 30075 n1 n2 n3 n4 n5 n6) 16 10 30075 v = rn_put (rn_put M 30076 o1 o2 o3 o4 o5 o6) 30075 n1 n2 n3 n4 v n6 := wx_4
theorem my_4 : wL (rn_put (rn_put M 30076 o1 o2 o3 o4 o5 o6) 30075 n1 n2 n3 n4 n5 n6) 16 10 30076 v = rn_put (rn_put M 30076 o1 o2 o3 o4 v o6) 30075 n1 n2 n3 n4 n5 n6 := wy_4 yx
theorem lx_5 : mL (rn_put (rn_put M 30076 o1 o2 o3 o4 o5 o6) 30075 n1 n2 n3 n4 n5 n6) 16 11 30075 = n6 := rx_5
theorem ly_5 : mL (rn_put (rn_put M 30076 o1 o2 o3 o4 o5 o6) 30075 n1 n2 n3 n4 n5 n6) 16 11 30076 = o6 := ry_5 yx
theorem mx_5 : wL (rn_put (rn_put M 30076 o1 o2 o3 o4 o5 o6) 30075 n1 n2 n3 n4 n5 n6) 16 11 30075 v = rn_put (rn_put M 30076 o1 o2 o3 o4 o5 o6) 30075 n1 n2 n3 n4 n5 v := wx_5
theorem my_5 : wL (rn_put (rn_put M 30076 o1 o2 o3 o4 o5 o6) 30075 n1 n2 n3 n4 n5 n6) 16 11 30076 v = rn_put (rn_put M 30076 o1 o2 o3 o4 o5 v) 30075 n1 n2 n3 n4 n5 n6 := wy_5 yx
theorem lc : ps_M M → f_M_copyNumber (rn_put (rn_put M 30076 o1 o2 o3 o4 o5 o6) 30075 n1 n2 n3 n4 n5 n6) 0 30075 30076 = some (rn_put (rn_put M 30076 n1 n2 n3 n4 n5 n6) 30075 n1 n2 n3 n4 n5 n6) := by
  intro h
  rw [pm_copy (ps_put (ps_put h)) ok_X ok_Y]
  have e : rg (rn_put (rn_put M 30076 o1 o2 o3 o4 o5 o6) 30075 n1 n2 n3 n4 n5 n6) 30075 = (n1, n2, n3, n4, n5, n6) := rg_t (x := (n1, n2, n3, n4, n5, n6))
  rw [e]
  show some (rn_put (rn_put (rn_put M 30076 o1 o2 o3 o4 o5 o6) 30075 n1 n2 n3 n4 n5 n6) 30076 n1 n2 n3 n4 n5 n6) = _
  rw [rn_cm yx, rn_two]
theorem l_ex (h : ps_M M) : f_M_isExact (rn_put (rn_put M 30076 o1 o2 o3 o4 o5 o6) 30075 n1 n2 n3 n4 n5 n6) 0 30075 = some ((rn_put (rn_put M 30076 o1 o2 o3 o4 o5 o6) 30075 n1 n2 n3 n4 n5 n6), if n2 = 0 then 1 else 0) := by
  rw [pm_isExact (ps_put (ps_put h)) ok_X]
  unfold rg
  rw [lx_1]
theorem l_ey (h : ps_M M) : f_M_isExact (rn_put (rn_put M 30076 o1 o2 o3 o4 o5 o6) 30075 n1 n2 n3 n4 n5 n6) 0 30076 = some ((rn_put (rn_put M 30076 o1 o2 o3 o4 o5 o6) 30075 n1 n2 n3 n4 n5 n6), if o2 = 0 then 1 else 0) := by
  rw [pm_isExact (ps_put (ps_put h)) ok_Y]
  unfold rg
  rw [ly_1]
theorem gXj {β : Type} {z : Option β} : gd (¬ ((30075 : Int32) < 0 ∨ 30081 ≤ 30075)) z = z := if_pos (by decide)
theorem tX : (30075 : Int32).toNatClampNeg = 30075 := rfl
theorem lm_200 (h : ps_M M) : f_M_same_b200 0 (rn_put (rn_put M 30076 o1 o2 o3 o4 o5 o6) 30075 n1 n2 n3 n4 n5 n6) v 30075 10 = some (rn_put (rn_put M 30076 n1 n2 n3 n4 v (fn_smin n6 o6)) 30075 n1 n2 n3 n4 v (fn_smin n6 o6), 1) := by
  unfold f_M_same_b200
  simp only [bd_some, b2_some, st_eq, rs_52 h, rs_53 h, rs_54 h, rs_55 h, rs_56 h, rs_57 h, rz_16_6 h, rz_16_7 h, rz_16_8 h, rz_16_9 h, rz_16_10 h, rz_16_11 h, rn_R, rn_Z, pR_L, pZ_L, if_true, gX, gY, lx_0, ly_0, mx_0, my_0, lx_1, ly_1, mx_1, my_1, lx_2, ly_2, mx_2, my_2, lx_3, ly_3, mx_3, my_3, lx_4, ly_4, mx_4, my_4, lx_5, ly_5, mx_5, my_5, gXj, tX, lc h]
  rw [fn_smin_c]
  by_cases c : n6 < o6
  · rw [if_pos c, if_pos c]
  · rw [if_neg c, if_neg c]
theorem lm_same (h : ps_M M) : f_M_same (rn_put (rn_put M 30076 o1 o2 o3 o4 o5 o6) 30075 n1 n2 n3 n4 n5 n6) 0 = rr_o M (rn_put (rn_put M 30076 o1 o2 o3 o4 o5 o6) 30075 n1 n2 n3 n4 n5 n6) 30075 30076 (fn_same n1 n2 n3 n4 n5 n6 o1 o2 o3 o4 o5 o6) := by
  unfold f_M_same fn_same
  simp only [bd_some, b2_some, st_eq, rs_52 h, rs_53 h, rs_54 h, rs_55 h, rs_56 h, rs_57 h, rz_16_6 h, rz_16_7 h, rz_16_8 h, rz_16_9 h, rz_16_10 h, rz_16_11 h, rn_R, rn_Z, pR_L, pZ_L, if_true, gX, gY, lx_0, ly_0, mx_0, my_0, lx_1, ly_1, mx_1, my_1, lx_2, ly_2, mx_2, my_2, lx_3, ly_3, mx_3, my_3, lx_4, ly_4, mx_4, my_4, lx_5, ly_5, mx_5, my_5, pm_greater, pm_lesser, lm_200 h]
  by_cases c : ((n1 ^^^ o1) &&& (n2 ^^^ -1)) &&& (o2 ^^^ -1) = 0
  · rw [if_pos c, if_pos c]
    unfold fn_smax
    by_cases c2 : o5 < n5
    · rw [if_pos c2, if_pos c2]; rfl
    · rw [if_neg c2, if_neg c2]; rfl
  · rw [if_neg c, if_neg c]; rfl
theorem lm_159 (h : ps_M M) {s : Int32} : f_M_meets_b159 0 (rn_put (rn_put M 30076 o1 o2 o3 o4 o5 o6) 30075 n1 n2 n3 n4 n5 n6) s v = if s = 0 then some ((rn_put (rn_put M 30076 o1 o2 o3 o4 o5 o6) 30075 n1 n2 n3 n4 n5 n6), 1) else some (rn_put (rn_put M 30076 (o1 ||| v) (o2 &&& (v ^^^ -1)) o3 o4 o5 o6) 30075 n1 n2 n3 n4 n5 n6, 1) := by
  unfold f_M_meets_b159
  simp only [bd_some, b2_some, st_eq, rs_52 h, rs_53 h, rs_54 h, rs_55 h, rs_56 h, rs_57 h, rz_16_6 h, rz_16_7 h, rz_16_8 h, rz_16_9 h, rz_16_10 h, rz_16_11 h, rn_R, rn_Z, pR_L, pZ_L, if_true, gX, gY, lx_0, ly_0, mx_0, my_0, lx_1, ly_1, mx_1, my_1, lx_2, ly_2, mx_2, my_2, lx_3, ly_3, mx_3, my_3, lx_4, ly_4, mx_4, my_4, lx_5, ly_5, mx_5, my_5]
theorem lm_71 (h : ps_M M) {s : Int32} : f_M_meets_b71 0 (rn_put (rn_put M 30076 o1 o2 o3 o4 o5 o6) 30075 n1 n2 n3 n4 n5 n6) s = f_M_meets_b159 0 (rt (rn_put M 30076 o1 o2 o3 o4 o5 o6) 30075 (fn_meet1 n1 n2 n3 n4 n5 n6 o1 o2)) s n1 := by
  unfold f_M_meets_b71 fn_meet1 rt
  generalize f_M_meets_b159 = q
  simp only [bd_some, b2_some, st_eq, rs_52 h, rs_53 h, rs_54 h, rs_55 h, rs_56 h, rs_57 h, rz_16_6 h, rz_16_7 h, rz_16_8 h, rz_16_9 h, rz_16_10 h, rz_16_11 h, rn_R, rn_Z, pR_L, pZ_L, if_true, gX, gY, lx_0, ly_0, mx_0, my_0, lx_1, ly_1, mx_1, my_1, lx_2, ly_2, mx_2, my_2, lx_3, ly_3, mx_3, my_3, lx_4, ly_4, mx_4, my_4, lx_5, ly_5, mx_5, my_5, l_ey h, pm_isOne]
  by_cases c : o2 = 0
  · rw [if_pos c, if_neg (by decide), if_pos c]
    by_cases c2 : fn_bc o1 = 1
    · rw [if_pos c2, if_neg (by decide), if_pos c2]
    · rw [if_neg c2, if_pos rfl, if_neg c2]
  · rw [if_neg c, if_pos rfl, if_neg c]
theorem lm_meet (h : ps_M M) : f_M_meets (rn_put (rn_put M 30076 o1 o2 o3 o4 o5 o6) 30075 n1 n2 n3 n4 n5 n6) 0 = rr_o M (rn_put (rn_put M 30076 o1 o2 o3 o4 o5 o6) 30075 n1 n2 n3 n4 n5 n6) 30075 30076 (fn_meet n1 n2 n3 n4 n5 n6 o1 o2 o3 o4 o5 o6) := by
  have k : ∀ s, f_M_meets_b71 0 (rn_put (rn_put M 30076 o1 o2 o3 o4 o5 o6) 30075 n1 n2 n3 n4 n5 n6) s = if s = 0 then some (rt (rn_put M 30076 o1 o2 o3 o4 o5 o6) 30075 (fn_meet1 n1 n2 n3 n4 n5 n6 o1 o2), 1) else some (rt (rn_put M 30076 (o1 ||| n1) (o2 &&& (n1 ^^^ -1)) o3 o4 o5 o6) 30075 (fn_meet1 n1 n2 n3 n4 n5 n6 o1 o2), 1) := fun s => (lm_71 h).trans (lm_159 h)
  unfold f_M_meets f_M_meets_b70 fn_meet
  simp only [bd_some, b2_some, st_eq, rs_52 h, rs_53 h, rs_54 h, rs_55 h, rs_56 h, rs_57 h, rz_16_6 h, rz_16_7 h, rz_16_8 h, rz_16_9 h, rz_16_10 h, rz_16_11 h, rn_R, rn_Z, pR_L, pZ_L, if_true, gX, gY, lx_0, ly_0, mx_0, my_0, lx_1, ly_1, mx_1, my_1, lx_2, ly_2, mx_2, my_2, lx_3, ly_3, mx_3, my_3, lx_4, ly_4, mx_4, my_4, lx_5, ly_5, mx_5, my_5, l_ex h, pm_isOne, k]
  by_cases c : ((n1 ||| n2) &&& (o1 ||| o2)) = 0
  · rw [if_pos c, if_pos c]; rfl
  · rw [if_neg c, if_neg c]
    show _ = some (rt (rt M 30076 (fn_meet1 o1 o2 o3 o4 o5 o6 n1 n2)) 30075 (fn_meet1 n1 n2 n3 n4 n5 n6 o1 o2), 1)
    generalize fn_meet1 n1 n2 n3 n4 n5 n6 o1 o2 = z
    unfold fn_meet1
    by_cases c1 : n2 = 0
    · rw [if_pos c1, if_neg (by decide), if_pos c1]
      by_cases c2 : fn_bc n1 = 1
      · rw [if_pos c2, if_neg (by decide), if_neg (by decide), if_pos c2]; rfl
      · rw [if_neg c2, if_pos rfl, if_neg c2]; rfl
    · rw [if_neg c1, if_pos rfl, if_neg c1]; rfl
theorem lm_m71 (h : ps_M M) {s : Int32} : f_M_misses_b71 0 (rn_put (rn_put M 30076 o1 o2 o3 o4 o5 o6) 30075 n1 n2 n3 n4 n5 n6) s = if s = 0 then some ((rn_put (rn_put M 30076 o1 o2 o3 o4 o5 o6) 30075 n1 n2 n3 n4 n5 n6), 1) else some (rn_put (rn_put M 30076 o1 (o2 &&& (n1 ^^^ -1)) o3 o4 o5 o6) 30075 n1 n2 n3 n4 n5 n6, 1) := by
  unfold f_M_misses_b71
  simp only [bd_some, b2_some, st_eq, rs_52 h, rs_53 h, rs_54 h, rs_55 h, rs_56 h, rs_57 h, rz_16_6 h, rz_16_7 h, rz_16_8 h, rz_16_9 h, rz_16_10 h, rz_16_11 h, rn_R, rn_Z, pR_L, pZ_L, if_true, gX, gY, lx_0, ly_0, mx_0, my_0, lx_1, ly_1, mx_1, my_1, lx_2, ly_2, mx_2, my_2, lx_3, ly_3, mx_3, my_3, lx_4, ly_4, mx_4, my_4, lx_5, ly_5, mx_5, my_5]
theorem lm_nmeet (h : ps_M M) : f_M_misses (rn_put (rn_put M 30076 o1 o2 o3 o4 o5 o6) 30075 n1 n2 n3 n4 n5 n6) 0 = rr_o M (rn_put (rn_put M 30076 o1 o2 o3 o4 o5 o6) 30075 n1 n2 n3 n4 n5 n6) 30075 30076 (fn_nmeet n1 n2 n3 n4 n5 n6 o1 o2 o3 o4 o5 o6) := by
  unfold f_M_misses fn_nmeet
  simp only [bd_some, b2_some, st_eq, rs_52 h, rs_53 h, rs_54 h, rs_55 h, rs_56 h, rs_57 h, rz_16_6 h, rz_16_7 h, rz_16_8 h, rz_16_9 h, rz_16_10 h, rz_16_11 h, rn_R, rn_Z, pR_L, pZ_L, if_true, gX, gY, lx_0, ly_0, mx_0, my_0, lx_1, ly_1, mx_1, my_1, lx_2, ly_2, mx_2, my_2, lx_3, ly_3, mx_3, my_3, lx_4, ly_4, mx_4, my_4, lx_5, ly_5, mx_5, my_5, l_ex h, l_ey h, lm_m71 h]
  by_cases c : n1 &&& o1 = 0
  · rw [if_pos c, if_pos c]
    by_cases c1 : n2 = 0 <;> by_cases c2 : o2 = 0 <;> simp only [c1, c2, if_true, if_false, show ¬ (1 : Int32) = 0 from by decide] <;> rfl
  · rw [if_neg c, if_neg c]; rfl
theorem lw_x (h : ps_M M) : f_M_without (rn_put (rn_put M 30076 o1 o2 o3 o4 o5 o6) 30075 n1 n2 n3 n4 n5 n6) 0 30075 v = some (rn_put (rn_put M 30076 o1 o2 o3 o4 o5 o6) 30075 n1 n2 (n3 + (if n3 = v then 1 else 0)) (n4 - (if n4 = v then 1 else 0)) (n5 + (if n5 = v then 1 else 0)) (n6 - (if n6 = v then 1 else 0))) := by
  have b101 : ∀ n1 n2 n3 n4 n5 n6 w : Int64, f_M_without_b101 0 30075 v (rn_put (rn_put M 30076 o1 o2 o3 o4 o5 o6) 30075 n1 n2 n3 n4 n5 n6) w 30075 10 = some (rn_put (rn_put M 30076 o1 o2 o3 o4 o5 o6) 30075 n1 n2 n3 n4 w (n6 - (if n6 = v then 1 else 0))) := by
    intro n1 n2 n3 n4 n5 n6 w
    unfold f_M_without_b101
    simp only [bd_some, b2_some, st_eq, rs_52 h, rs_53 h, rs_54 h, rs_55 h, rs_56 h, rs_57 h, rz_16_6 h, rz_16_7 h, rz_16_8 h, rz_16_9 h, rz_16_10 h, rz_16_11 h, rn_R, rn_Z, pR_L, pZ_L, if_true, gX, gY, lx_0, ly_0, mx_0, my_0, lx_1, ly_1, mx_1, my_1, lx_2, ly_2, mx_2, my_2, lx_3, ly_3, mx_3, my_3, lx_4, ly_4, mx_4, my_4, lx_5, ly_5, mx_5, my_5, gXj, tX]
    by_cases c : n6 = v
    · rw [if_pos c, if_pos c]
    · rw [if_neg c, if_neg c, Int64.sub_zero]
  have b67 : ∀ n1 n2 n3 n4 n5 n6 w : Int64, f_M_without_b67 0 30075 v (rn_put (rn_put M 30076 o1 o2 o3 o4 o5 o6) 30075 n1 n2 n3 n4 n5 n6) w 30075 9 = some (rn_put (rn_put M 30076 o1 o2 o3 o4 o5 o6) 30075 n1 n2 n3 w (n5 + (if n5 = v then 1 else 0)) (n6 - (if n6 = v then 1 else 0))) := by
    intro n1 n2 n3 n4 n5 n6 w
    unfold f_M_without_b67
    simp only [bd_some, b2_some, st_eq, rs_52 h, rs_53 h, rs_54 h, rs_55 h, rs_56 h, rs_57 h, rz_16_6 h, rz_16_7 h, rz_16_8 h, rz_16_9 h, rz_16_10 h, rz_16_11 h, rn_R, rn_Z, pR_L, pZ_L, if_true, gX, gY, lx_0, ly_0, mx_0, my_0, lx_1, ly_1, mx_1, my_1, lx_2, ly_2, mx_2, my_2, lx_3, ly_3, mx_3, my_3, lx_4, ly_4, mx_4, my_4, lx_5, ly_5, mx_5, my_5, gXj, tX, b101]
    by_cases c : n5 = v
    · rw [if_pos c, if_pos c]
    · rw [if_neg c, if_neg c, Int64.add_zero]
  have b33 : ∀ n1 n2 n3 n4 n5 n6 w : Int64, f_M_without_b33 0 30075 v (rn_put (rn_put M 30076 o1 o2 o3 o4 o5 o6) 30075 n1 n2 n3 n4 n5 n6) w 30075 8 = some (rn_put (rn_put M 30076 o1 o2 o3 o4 o5 o6) 30075 n1 n2 w (n4 - (if n4 = v then 1 else 0)) (n5 + (if n5 = v then 1 else 0)) (n6 - (if n6 = v then 1 else 0))) := by
    intro n1 n2 n3 n4 n5 n6 w
    unfold f_M_without_b33
    simp only [bd_some, b2_some, st_eq, rs_52 h, rs_53 h, rs_54 h, rs_55 h, rs_56 h, rs_57 h, rz_16_6 h, rz_16_7 h, rz_16_8 h, rz_16_9 h, rz_16_10 h, rz_16_11 h, rn_R, rn_Z, pR_L, pZ_L, if_true, gX, gY, lx_0, ly_0, mx_0, my_0, lx_1, ly_1, mx_1, my_1, lx_2, ly_2, mx_2, my_2, lx_3, ly_3, mx_3, my_3, lx_4, ly_4, mx_4, my_4, lx_5, ly_5, mx_5, my_5, gXj, tX, b67]
    by_cases c : n4 = v
    · rw [if_pos c, if_pos c]
    · rw [if_neg c, if_neg c, Int64.sub_zero]
  unfold f_M_without
  simp only [bd_some, b2_some, st_eq, rs_52 h, rs_53 h, rs_54 h, rs_55 h, rs_56 h, rs_57 h, rz_16_6 h, rz_16_7 h, rz_16_8 h, rz_16_9 h, rz_16_10 h, rz_16_11 h, rn_R, rn_Z, pR_L, pZ_L, if_true, gX, gY, lx_0, ly_0, mx_0, my_0, lx_1, ly_1, mx_1, my_1, lx_2, ly_2, mx_2, my_2, lx_3, ly_3, mx_3, my_3, lx_4, ly_4, mx_4, my_4, lx_5, ly_5, mx_5, my_5, gXj, tX, b33]
  by_cases c : n3 = v
  · rw [if_pos c, if_pos c]
  · rw [if_neg c, if_neg c, Int64.add_zero]
theorem lw_y (h : ps_M M) : f_M_without (rn_put (rn_put M 30076 o1 o2 o3 o4 o5 o6) 30075 n1 n2 n3 n4 n5 n6) 0 30076 v = some (rn_put (rn_put M 30076 o1 o2 (o3 + (if o3 = v then 1 else 0)) (o4 - (if o4 = v then 1 else 0)) (o5 + (if o5 = v then 1 else 0)) (o6 - (if o6 = v then 1 else 0))) 30075 n1 n2 n3 n4 n5 n6) := by
  have b101 : ∀ o1 o2 o3 o4 o5 o6 w : Int64, f_M_without_b101 0 30076 v (rn_put (rn_put M 30076 o1 o2 o3 o4 o5 o6) 30075 n1 n2 n3 n4 n5 n6) w 30076 10 = some (rn_put (rn_put M 30076 o1 o2 o3 o4 w (o6 - (if o6 = v then 1 else 0))) 30075 n1 n2 n3 n4 n5 n6) := by
    intro o1 o2 o3 o4 o5 o6 w
    unfold f_M_without_b101
    simp only [bd_some, b2_some, st_eq, rs_52 h, rs_53 h, rs_54 h, rs_55 h, rs_56 h, rs_57 h, rz_16_6 h, rz_16_7 h, rz_16_8 h, rz_16_9 h, rz_16_10 h, rz_16_11 h, rn_R, rn_Z, pR_L, pZ_L, if_true, gX, gY, lx_0, ly_0, mx_0, my_0, lx_1, ly_1, mx_1, my_1, lx_2, ly_2, mx_2, my_2, lx_3, ly_3, mx_3, my_3, lx_4, ly_4, mx_4, my_4, lx_5, ly_5, mx_5, my_5, gYj, tY]
    by_cases c : o6 = v
    · rw [if_pos c, if_pos c]
    · rw [if_neg c, if_neg c, Int64.sub_zero]
  have b67 : ∀ o1 o2 o3 o4 o5 o6 w : Int64, f_M_without_b67 0 30076 v (rn_put (rn_put M 30076 o1 o2 o3 o4 o5 o6) 30075 n1 n2 n3 n4 n5 n6) w 30076 9 = some (rn_put (rn_put M 30076 o1 o2 o3 w (o5 + (if o5 = v then 1 else 0)) (o6 - (if o6 = v then 1 else 0))) 30075 n1 n2 n3 n4 n5 n6) := by
    intro o1 o2 o3 o4 o5 o6 w
    unfold f_M_without_b67
    simp only [bd_some, b2_some, st_eq, rs_52 h, rs_53 h, rs_54 h, rs_55 h, rs_56 h, rs_57 h, rz_16_6 h, rz_16_7 h, rz_16_8 h, rz_16_9 h, rz_16_10 h, rz_16_11 h, rn_R, rn_Z, pR_L, pZ_L, if_true, gX, gY, lx_0, ly_0, mx_0, my_0, lx_1, ly_1, mx_1, my_1, lx_2, ly_2, mx_2, my_2, lx_3, ly_3, mx_3, my_3, lx_4, ly_4, mx_4, my_4, lx_5, ly_5, mx_5, my_5, gYj, tY, b101]
    by_cases c : o5 = v
    · rw [if_pos c, if_pos c]
    · rw [if_neg c, if_neg c, Int64.add_zero]
  have b33 : ∀ o1 o2 o3 o4 o5 o6 w : Int64, f_M_without_b33 0 30076 v (rn_put (rn_put M 30076 o1 o2 o3 o4 o5 o6) 30075 n1 n2 n3 n4 n5 n6) w 30076 8 = some (rn_put (rn_put M 30076 o1 o2 w (o4 - (if o4 = v then 1 else 0)) (o5 + (if o5 = v then 1 else 0)) (o6 - (if o6 = v then 1 else 0))) 30075 n1 n2 n3 n4 n5 n6) := by
    intro o1 o2 o3 o4 o5 o6 w
    unfold f_M_without_b33
    simp only [bd_some, b2_some, st_eq, rs_52 h, rs_53 h, rs_54 h, rs_55 h, rs_56 h, rs_57 h, rz_16_6 h, rz_16_7 h, rz_16_8 h, rz_16_9 h, rz_16_10 h, rz_16_11 h, rn_R, rn_Z, pR_L, pZ_L, if_true, gX, gY, lx_0, ly_0, mx_0, my_0, lx_1, ly_1, mx_1, my_1, lx_2, ly_2, mx_2, my_2, lx_3, ly_3, mx_3, my_3, lx_4, ly_4, mx_4, my_4, lx_5, ly_5, mx_5, my_5, gYj, tY, b67]
    by_cases c : o4 = v
    · rw [if_pos c, if_pos c]
    · rw [if_neg c, if_neg c, Int64.sub_zero]
  unfold f_M_without
  simp only [bd_some, b2_some, st_eq, rs_52 h, rs_53 h, rs_54 h, rs_55 h, rs_56 h, rs_57 h, rz_16_6 h, rz_16_7 h, rz_16_8 h, rz_16_9 h, rz_16_10 h, rz_16_11 h, rn_R, rn_Z, pR_L, pZ_L, if_true, gX, gY, lx_0, ly_0, mx_0, my_0, lx_1, ly_1, mx_1, my_1, lx_2, ly_2, mx_2, my_2, lx_3, ly_3, mx_3, my_3, lx_4, ly_4, mx_4, my_4, lx_5, ly_5, mx_5, my_5, gYj, tY, b33]
  by_cases c : o3 = v
  · rw [if_pos c, if_pos c]
  · rw [if_neg c, if_neg c, Int64.add_zero]
theorem lm_n46 (h : ps_M M) {s t : Int32} : f_M_notSame_b46 0 (rn_put (rn_put M 30076 o1 o2 o3 o4 o5 o6) 30075 n1 n2 n3 n4 n5 n6) s t = some (rt (rt M 30076 (if s = 0 then (o1, o2, o3, o4, o5, o6) else (o1, o2, o3 + (if o3 = n1 then 1 else 0), o4 - (if o4 = n1 then 1 else 0), o5 + (if o5 = n1 then 1 else 0), o6 - (if o6 = n1 then 1 else 0)))) 30075 (if t = 0 then (n1, n2, n3, n4, n5, n6) else (n1, n2, n3 + (if n3 = o1 then 1 else 0), n4 - (if n4 = o1 then 1 else 0), n5 + (if n5 = o1 then 1 else 0), n6 - (if n6 = o1 then 1 else 0))), 1) := by
  unfold f_M_notSame_b46
  simp only [bd_some, b2_some, st_eq, rs_52 h, rs_53 h, rs_54 h, rs_55 h, rs_56 h, rs_57 h, rz_16_6 h, rz_16_7 h, rz_16_8 h, rz_16_9 h, rz_16_10 h, rz_16_11 h, rn_R, rn_Z, pR_L, pZ_L, if_true, gX, gY, lx_0, ly_0, mx_0, my_0, lx_1, ly_1, mx_1, my_1, lx_2, ly_2, mx_2, my_2, lx_3, ly_3, mx_3, my_3, lx_4, ly_4, mx_4, my_4, lx_5, ly_5, mx_5, my_5, lw_x h, lw_y h]
  by_cases c1 : s = 0 <;> by_cases c2 : t = 0 <;> simp only [c1, c2, if_true, if_false] <;> rfl
theorem lm_nsame (h : ps_M M) : f_M_notSame (rn_put (rn_put M 30076 o1 o2 o3 o4 o5 o6) 30075 n1 n2 n3 n4 n5 n6) 0 = rr_o M (rn_put (rn_put M 30076 o1 o2 o3 o4 o5 o6) 30075 n1 n2 n3 n4 n5 n6) 30075 30076 (fn_nsame n1 n2 n3 n4 n5 n6 o1 o2 o3 o4 o5 o6) := by
  unfold f_M_notSame fn_nsame fn_nsame1 fn_exc
  simp only [bd_some, b2_some, st_eq, rs_52 h, rs_53 h, rs_54 h, rs_55 h, rs_56 h, rs_57 h, rz_16_6 h, rz_16_7 h, rz_16_8 h, rz_16_9 h, rz_16_10 h, rz_16_11 h, rn_R, rn_Z, pR_L, pZ_L, if_true, gX, gY, lx_0, ly_0, mx_0, my_0, lx_1, ly_1, mx_1, my_1, lx_2, ly_2, mx_2, my_2, lx_3, ly_3, mx_3, my_3, lx_4, ly_4, mx_4, my_4, lx_5, ly_5, mx_5, my_5, l_ex h, l_ey h, lm_n46 h]
  by_cases c1 : n2 = 0
  · rw [if_pos c1, if_neg (by decide)]
    by_cases c2 : o2 = 0
    · rw [if_pos c2, if_neg (by decide), if_pos c2, if_pos c1]
      by_cases c3 : n1 = o1
      · rw [if_pos c3, if_pos c3]; rfl
      · rw [if_neg c3, if_neg c3]
        dsimp only
        rw [if_pos c1, if_pos c2, if_neg (show ¬ o1 = n1 from fun z => c3 z.symm)]; rfl
    · rw [if_neg c2, if_pos rfl, if_neg c2, if_pos c1, if_neg c2]; rfl
  · rw [if_neg c1, if_pos rfl, if_neg c1, if_neg c1]
    by_cases c2 : o2 = 0
    · rw [if_pos c2, if_pos c2]
      dsimp only
      rw [if_neg c1]; rfl
    · rw [if_neg c2, if_neg c2]; rfl
end RL
