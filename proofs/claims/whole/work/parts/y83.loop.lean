def lw_S_0 (xs : Nat → Int32) (i jo : Nat) (M R M1 R1 : me_M) : Prop := ∃ (r : Int32), f_G_feed M 0 (xs (i + 1)) (xs (i + 2)) (xs (i + 3)) (xs (i + 4)) (xs (i + 5)) = some (M1, r) ∧ f_M_feed R 0 (xs (i + 1)) (xs (i + 2)) (xs (i + 3)) (xs (i + 4)) (xs (i + 5)) = some (R1, r)
def lw_S_1_0 (xs : Nat → Int32) (i jo : Nat) (M R M1 R1 : me_M) : Prop := ∃ (R2 : me_M), ∃ (rb : Int32), 0 < mZ M1 16 jo ∧ f_Law_map M 0 (xs (i + 1)) (xs (i + 2)) (xs (i + 3)) (xs (i + 4)) jo = some (M1, 0) ∧ f_M_map R 0 (xs (i + 1)) (xs (i + 2)) (xs (i + 3)) (xs (i + 4)) = some (R2, rb) ∧ f_M_thrown R2 0 = some (R1, 0) ∧ mL M1 16 jo 0 = rb.toInt64
def lw_S_1_1 (xs : Nat → Int32) (i jo : Nat) (M R M1 R1 : me_M) : Prop := ∃ (R2 : me_M), ∃ (rb : Int32), fT1_G_map M 0 (xs (i + 1)) (xs (i + 2)) (xs (i + 3)) (xs (i + 4)) = some M1 ∧ f_M_map R 0 (xs (i + 1)) (xs (i + 2)) (xs (i + 3)) (xs (i + 4)) = some (R2, rb) ∧ f_M_thrown R2 0 = some (R1, 1)
def lw_S_1_2 (xs : Nat → Int32) (i jo : Nat) (M R M1 R1 : me_M) : Prop := ∃ (R2 : me_M), ∃ (rb : Int32), fT2_G_map M 0 (xs (i + 1)) (xs (i + 2)) (xs (i + 3)) (xs (i + 4)) = some M1 ∧ f_M_map R 0 (xs (i + 1)) (xs (i + 2)) (xs (i + 3)) (xs (i + 4)) = some (R2, rb) ∧ f_M_thrown R2 0 = some (R1, 2)
def lw_S_2_0 (xs : Nat → Int32) (i jo : Nat) (M R M1 R1 : me_M) : Prop := ∃ (R2 : me_M), ∃ (rb : Int32), 0 < mZ M1 16 jo ∧ f_Law_program M 0 (xs (i + 1)) (xs (i + 2)) jo = some (M1, 0) ∧ f_M_program R 0 (xs (i + 1)) (xs (i + 2)) = some (R2, rb) ∧ f_M_thrown R2 0 = some (R1, 0) ∧ mL M1 16 jo 0 = rb.toInt64
def lw_S_2_1 (xs : Nat → Int32) (i jo : Nat) (M R M1 R1 : me_M) : Prop := ∃ (R2 : me_M), ∃ (rb : Int32), fT1_G_program M 0 (xs (i + 1)) (xs (i + 2)) = some M1 ∧ f_M_program R 0 (xs (i + 1)) (xs (i + 2)) = some (R2, rb) ∧ f_M_thrown R2 0 = some (R1, 1)
def lw_S_3 (xs : Nat → Int32) (i jo : Nat) (M R M1 R1 : me_M) : Prop := ∃ (r : Int32), f_G_about M 0 (xs (i + 1)) = some (M1, r) ∧ f_M_about R 0 (xs (i + 1)) = some (R1, r)
def lw_S_4_0 (xs : Nat → Int32) (i jo : Nat) (M R M1 R1 : me_M) : Prop := ∃ (R2 : me_M), ∃ (rb : Int64), 0 < mZ M1 16 jo ∧ f_Law_fact M 0 (xs (i + 1)) (xs (i + 2)) jo = some (M1, 0) ∧ f_M_fact R 0 (xs (i + 1)) (xs (i + 2)) = some (R2, rb) ∧ f_M_thrown R2 0 = some (R1, 0) ∧ mL M1 16 jo 0 = rb
def lw_S_4_1 (xs : Nat → Int32) (i jo : Nat) (M R M1 R1 : me_M) : Prop := ∃ (R2 : me_M), ∃ (rb : Int64), fT3_G_fact M 0 (xs (i + 1)) (xs (i + 2)) = some M1 ∧ f_M_fact R 0 (xs (i + 1)) (xs (i + 2)) = some (R2, rb) ∧ f_M_thrown R2 0 = some (R1, 1)
def lw_S_5_0z0 (xs : Nat → Int32) (i jo : Nat) (M R M1 R1 : me_M) : Prop := ∃ (R2 : me_M), ∃ (rb : Int64), xs (i + 2) = 0 ∧ 0 < mZ M1 16 jo ∧ f_Law_code M 0 (xs (i + 1)) (0 : Int32) jo = some (M1, 0) ∧ f_M_code R 0 (xs (i + 1)) (0 : Int32) = some (R2, rb) ∧ f_M_thrown R2 0 = some (R1, 0) ∧ mL M1 16 jo 0 = rb
def lw_S_5_0z1 (xs : Nat → Int32) (i jo : Nat) (M R M1 R1 : me_M) : Prop := ∃ (R2 : me_M), ∃ (rb : Int64), ¬ xs (i + 2) = 0 ∧ 0 < mZ M1 16 jo ∧ f_Law_code M 0 (xs (i + 1)) (1 : Int32) jo = some (M1, 0) ∧ f_M_code R 0 (xs (i + 1)) (1 : Int32) = some (R2, rb) ∧ f_M_thrown R2 0 = some (R1, 0) ∧ mL M1 16 jo 0 = rb
def lw_S_5_1z0 (xs : Nat → Int32) (i jo : Nat) (M R M1 R1 : me_M) : Prop := ∃ (R2 : me_M), ∃ (rb : Int64), xs (i + 2) = 0 ∧ fT3_G_code M 0 (xs (i + 1)) (0 : Int32) = some M1 ∧ f_M_code R 0 (xs (i + 1)) (0 : Int32) = some (R2, rb) ∧ f_M_thrown R2 0 = some (R1, 1)
def lw_S_5_1z1 (xs : Nat → Int32) (i jo : Nat) (M R M1 R1 : me_M) : Prop := ∃ (R2 : me_M), ∃ (rb : Int64), ¬ xs (i + 2) = 0 ∧ fT3_G_code M 0 (xs (i + 1)) (1 : Int32) = some M1 ∧ f_M_code R 0 (xs (i + 1)) (1 : Int32) = some (R2, rb) ∧ f_M_thrown R2 0 = some (R1, 1)
def lw_S_6 (xs : Nat → Int32) (i jo : Nat) (M R M1 R1 : me_M) : Prop := ∃ (r : Int32), f_G_packet M 0 (xs (i + 1)) = some (M1, r) ∧ f_M_packet R 0 (xs (i + 1)) = some (R1, r)
def lw_S_7 (xs : Nat → Int32) (i jo : Nat) (M R M1 R1 : me_M) : Prop := ∃ (r : Int32), f_G_context M 0 (xs (i + 1)) ((jlshl ((xs (i + 2)).toInt64) (32 : Int32)) ||| (((xs (i + 3)).toInt64) &&& 4294967295)) = some (M1, r) ∧ f_M_context R 0 (xs (i + 1)) ((jlshl ((xs (i + 2)).toInt64) (32 : Int32)) ||| (((xs (i + 3)).toInt64) &&& 4294967295)) = some (R1, r)
def lw_S_8_0 (xs : Nat → Int32) (i jo : Nat) (M R M1 R1 : me_M) : Prop := ∃ (R2 : me_M), ∃ (rb : Int32), 0 < mZ M1 16 jo ∧ f_Law_put M 0 (xs (i + 1)) jo = some (M1, 0) ∧ f_M_put R 0 (xs (i + 1)) = some (R2, rb) ∧ f_M_thrown R2 0 = some (R1, 0) ∧ mL M1 16 jo 0 = rb.toInt64
def lw_S_8_1 (xs : Nat → Int32) (i jo : Nat) (M R M1 R1 : me_M) : Prop := ∃ (R2 : me_M), ∃ (rb : Int32), fT1_G_put M 0 (xs (i + 1)) = some M1 ∧ f_M_put R 0 (xs (i + 1)) = some (R2, rb) ∧ f_M_thrown R2 0 = some (R1, 1)
def lw_S_9_0 (xs : Nat → Int32) (i jo : Nat) (M R M1 R1 : me_M) : Prop := ∃ (R2 : me_M), ∃ (rb : Int32), 0 < mZ M1 16 jo ∧ f_Law_entry M 0 (xs (i + 1)) (xs (i + 2)) (xs (i + 3)) jo = some (M1, 0) ∧ f_M_entry R 0 (xs (i + 1)) (xs (i + 2)) (xs (i + 3)) = some (R2, rb) ∧ f_M_thrown R2 0 = some (R1, 0) ∧ mL M1 16 jo 0 = rb.toInt64
def lw_S_9_1 (xs : Nat → Int32) (i jo : Nat) (M R M1 R1 : me_M) : Prop := ∃ (R2 : me_M), ∃ (rb : Int32), fT3_G_entry M 0 (xs (i + 1)) (xs (i + 2)) (xs (i + 3)) = some M1 ∧ f_M_entry R 0 (xs (i + 1)) (xs (i + 2)) (xs (i + 3)) = some (R2, rb) ∧ f_M_thrown R2 0 = some (R1, 1)
def lw_S_10_0 (xs : Nat → Int32) (i jo : Nat) (M R M1 R1 : me_M) : Prop := ∃ (R2 : me_M), ∃ (rb : Int32), 0 < mZ M1 16 jo ∧ f_Law_packetAt M 0 (xs (i + 1)) jo = some (M1, 0) ∧ f_M_packetAt R 0 (xs (i + 1)) = some (R2, rb) ∧ f_M_thrown R2 0 = some (R1, 0) ∧ mL M1 16 jo 0 = rb.toInt64
def lw_S_10_1 (xs : Nat → Int32) (i jo : Nat) (M R M1 R1 : me_M) : Prop := ∃ (R2 : me_M), ∃ (rb : Int32), fT3_G_packetAt M 0 (xs (i + 1)) = some M1 ∧ f_M_packetAt R 0 (xs (i + 1)) = some (R2, rb) ∧ f_M_thrown R2 0 = some (R1, 1)
def lw_S_11 (xs : Nat → Int32) (i jo : Nat) (M R M1 R1 : me_M) : Prop := f_G_clock M 0 ((jlshl ((xs (i + 1)).toInt64) (32 : Int32)) ||| (((xs (i + 2)).toInt64) &&& 4294967295)) = some M1 ∧ f_M_clock R 0 ((jlshl ((xs (i + 1)).toInt64) (32 : Int32)) ||| (((xs (i + 2)).toInt64) &&& 4294967295)) = some R1
def lw_S_12_0 (xs : Nat → Int32) (i jo : Nat) (M R M1 R1 : me_M) : Prop := ∃ (R2 : me_M), ∃ (rb : Int64), 0 < mZ M1 16 jo ∧ f_Law_run M 0 (xs (i + 1)) jo = some (M1, 0) ∧ f_M_run R 0 (xs (i + 1)) = some (R2, rb) ∧ f_M_thrown R2 0 = some (R1, 0) ∧ mL M1 16 jo 0 = rb
def lw_S_12_1 (xs : Nat → Int32) (i jo : Nat) (M R M1 R1 : me_M) : Prop := ∃ (R2 : me_M), ∃ (rb : Int64), fT1_G_run M 0 (xs (i + 1)) = some M1 ∧ f_M_run R 0 (xs (i + 1)) = some (R2, rb) ∧ f_M_thrown R2 0 = some (R1, 1)
def lw_S_12_2 (xs : Nat → Int32) (i jo : Nat) (M R M1 R1 : me_M) : Prop := ∃ (R2 : me_M), ∃ (rb : Int64), fT2_G_run M 0 (xs (i + 1)) = some M1 ∧ f_M_run R 0 (xs (i + 1)) = some (R2, rb) ∧ f_M_thrown R2 0 = some (R1, 2)
def lw_S_13 (xs : Nat → Int32) (i jo : Nat) (M R M1 R1 : me_M) : Prop := ∃ (r : Int32), f_G_ran M 0 (xs (i + 1)) = some (M1, r) ∧ f_M_ran R 0 (xs (i + 1)) = some (R1, r)
def lw_S_14_0 (xs : Nat → Int32) (i jo : Nat) (M R M1 R1 : me_M) : Prop := ∃ (R2 : me_M), ∃ (rb : Int64), 0 < mZ M1 16 jo ∧ f_Law_told M 0 (xs (i + 1)) jo = some (M1, 0) ∧ f_M_told R 0 (xs (i + 1)) = some (R2, rb) ∧ f_M_thrown R2 0 = some (R1, 0) ∧ mL M1 16 jo 0 = rb
def lw_S_14_1 (xs : Nat → Int32) (i jo : Nat) (M R M1 R1 : me_M) : Prop := ∃ (R2 : me_M), ∃ (rb : Int64), fT3_G_told M 0 (xs (i + 1)) = some M1 ∧ f_M_told R 0 (xs (i + 1)) = some (R2, rb) ∧ f_M_thrown R2 0 = some (R1, 1)
def lw_S_15 (xs : Nat → Int32) (i jo : Nat) (M R M1 R1 : me_M) : Prop := ∃ (r : Int32), f_G_count M 0 (xs (i + 1)) = some (M1, r) ∧ f_M_count R 0 (xs (i + 1)) = some (R1, r)
def lw_Step (xs : Nat → Int32) (i jo : Nat) (M R M1 R1 : me_M) : Prop := (xs i &&& 15 = 0 → lw_S_0 xs i jo M R M1 R1) ∧ (xs i &&& 15 = 1 → lw_S_1_0 xs i jo M R M1 R1 ∨ lw_S_1_1 xs i jo M R M1 R1 ∨ lw_S_1_2 xs i jo M R M1 R1) ∧ (xs i &&& 15 = 2 → lw_S_2_0 xs i jo M R M1 R1 ∨ lw_S_2_1 xs i jo M R M1 R1) ∧ (xs i &&& 15 = 3 → lw_S_3 xs i jo M R M1 R1) ∧ (xs i &&& 15 = 4 → lw_S_4_0 xs i jo M R M1 R1 ∨ lw_S_4_1 xs i jo M R M1 R1) ∧ (xs i &&& 15 = 5 → lw_S_5_0z0 xs i jo M R M1 R1 ∨ lw_S_5_0z1 xs i jo M R M1 R1 ∨ lw_S_5_1z0 xs i jo M R M1 R1 ∨ lw_S_5_1z1 xs i jo M R M1 R1) ∧ (xs i &&& 15 = 6 → lw_S_6 xs i jo M R M1 R1) ∧ (xs i &&& 15 = 7 → lw_S_7 xs i jo M R M1 R1) ∧ (xs i &&& 15 = 8 → lw_S_8_0 xs i jo M R M1 R1 ∨ lw_S_8_1 xs i jo M R M1 R1) ∧ (xs i &&& 15 = 9 → lw_S_9_0 xs i jo M R M1 R1 ∨ lw_S_9_1 xs i jo M R M1 R1) ∧ (xs i &&& 15 = 10 → lw_S_10_0 xs i jo M R M1 R1 ∨ lw_S_10_1 xs i jo M R M1 R1) ∧ (xs i &&& 15 = 11 → lw_S_11 xs i jo M R M1 R1) ∧ (xs i &&& 15 = 12 → lw_S_12_0 xs i jo M R M1 R1 ∨ lw_S_12_1 xs i jo M R M1 R1 ∨ lw_S_12_2 xs i jo M R M1 R1) ∧ (xs i &&& 15 = 13 → lw_S_13 xs i jo M R M1 R1) ∧ (xs i &&& 15 = 14 → lw_S_14_0 xs i jo M R M1 R1 ∨ lw_S_14_1 xs i jo M R M1 R1) ∧ (xs i &&& 15 = 15 → lw_S_15 xs i jo M R M1 R1)
theorem d_Law_law_23 : decode code 23 = .ok (.iload 4, 2) := by decide +kernel
theorem d_Law_law_25 : decode code 25 = .ok (.aload_n 0, 1) := by decide +kernel
theorem d_Law_law_26 : decode code 26 = .ok (.arraylength, 1) := by decide +kernel
theorem d_Law_law_27 : decode code 27 = .ok (.bipush 6, 2) := by decide +kernel
theorem d_Law_law_29 : decode code 29 = .ok (.isub, 1) := by decide +kernel
theorem d_Law_law_30 : decode code 30 = .ok (.if_icmp .gt 1005, 3) := by decide +kernel
theorem d_Law_law_33 : decode code 33 = .ok (.aload_n 0, 1) := by decide +kernel
theorem d_Law_law_34 : decode code 34 = .ok (.iload 4, 2) := by decide +kernel
theorem d_Law_law_36 : decode code 36 = .ok (.iaload, 1) := by decide +kernel
theorem d_Law_law_37 : decode code 37 = .ok (.bipush 15, 2) := by decide +kernel
theorem d_Law_law_39 : decode code 39 = .ok (.iand, 1) := by decide +kernel
theorem d_Law_law_40 : decode code 40 = .ok (.tableswitch 989 0 15 #[80, 153, 245, 313, 338, 405, 488, 513, 582, 638, 718, 774, 829, 884, 909, 964], 80) := by decide +kernel
theorem d_Law_law_1035 : decode code 1035 = .ok (.iconst 1, 1) := by decide +kernel
theorem d_Law_law_1036 : decode code 1036 = .ok (.ireturn, 1) := by decide +kernel
theorem d_Law_law_1029 : decode code 1029 = .ok (.iinc 4 6, 3) := by decide +kernel
theorem d_Law_law_1032 : decode code 1032 = .ok (.goto (-1009), 3) := by decide +kernel
theorem lw_gt {L i : Nat} (hL : L ≤ 3072) (hi : i ≤ L) : (Int32.ofNat L - 6 < nI i) ↔ L < i + 6 := by
  have h1 : (nI L - nI 6).toInt = (L : Int) - ((6 : Nat) : Int) := pk_sub_toInt (by omega) (by omega)
  have h2 : Int32.ofNat L - 6 = nI L - nI 6 := rfl
  rw [h2, Int32.lt_iff_toInt_lt, h1, nI_toInt (by omega)]
  omega
set_option maxHeartbeats 4000000 in
set_option maxRecDepth 100000 in
theorem lw_turn {p : Program} {l : Launch} {e : Env} {s : Jvm.State} {m : MethodId} {below : List Frame} {meth : Method} {c : Code} {b L i : Nat} {xs : Nat → Int32} {A : Nat → Prop} {D : va_G} {ca : Nat → ClassId} {ad bd : Nat → Nat → Nat} {N NR : Nat → Nat} {M M1 R R1 : me_M} {jo : Nat} {H : Heap} {locs : List Loc} {ls : Array Slot} {cells slots : Nat} {Q : Jvm.State → Prop} (hl9 : l.stackTraces = false) (hx : p.tables.exec = Jvm.exec) (hb : c.code = code) (hml : c.maxLocals = 8) (hown : s.vm.findClass "FilterGuardLaw" = some m.cls) (hts : ∀ w ∈ fg_g, w.before #[Value.ref b] s = true) (hX : fg_X s) (hz : fg_Z A s s.heap) (hy : fg_Y s) (hXs : va_X b L xs s s.heap) (hbl : b < s.heap.size) (hbA : ¬ A b) (hA : ∀ q : Nat, s.heap.size ≤ q → A q) (hK : va_K D classes (me_T ca) s) (hL : L ≤ 3072) (hi : i + 6 ≤ L) (hwf : me_wf N M) (hwr : me_wf NR R) (hcl : me_cN N ≤ me_CL ∧ me_sN N ≤ me_SL) (h00 : 0 < N 0) (h10 : 0 < NR 1) (hjo : jo < N 16) (hP : va_P D classes (me_W ad ca M ++ me_W bd ca R) H) (hD : va_D A (me_W ad ca M ++ me_W bd ca R)) (hS : va_S A s.heap H locs) (hl : lv_has ls 8 [(4, .int (nI i)), (3, .ref (ad 16 jo)), (2, .ref (bd 1 0)), (1, .ref (ad 0 0)), (0, .ref b)]) (hfit : cells + (me_CL - me_cN N) + 8 ≤ 601024 ∧ slots + (me_SL - me_sN N) + 48 ≤ 7293034) (hs : lw_Step xs i jo M R M1 R1) (kk : ∀ (ad1 : Nat → Nat → Nat) (N1 : Nat → Nat) (H1 : Heap) (locs1 : List Loc) (ls1 : Array Slot) (cells1 slots1 : Nat), (∀ a, N a ≤ N1 a) → me_wf N1 M1 → me_wf NR R1 → (me_cN N1 ≤ me_CL ∧ me_sN N1 ≤ me_SL) → va_P D classes (me_W ad1 ca M1 ++ me_W bd ca R1) H1 → va_D A (me_W ad1 ca M1 ++ me_W bd ca R1) → va_S A s.heap H1 locs1 → lv_has ls1 8 [(4, .int (nI i)), (3, .ref (ad1 16 jo)), (2, .ref (bd 1 0)), (1, .ref (ad1 0 0)), (0, .ref b)] → cells1 + me_cN N ≤ cells + me_cN N1 + 1 → slots1 + me_sN N ≤ slots + me_sN N1 + 6 → W p l e room_1 s m #[Value.ref b] below meth c H1 locs1 cells1 slots1 Q (F0 m 1029 ls1 [])) : W p l e room_1 s m #[Value.ref b] below meth c H locs cells slots Q (F0 m 23 ls []) := by
  refine lv_iload hx hb d_Law_law_23 (lv_at hl 0 rfl) ?_
  refine lv_aload_n hx hb d_Law_law_25 rfl (lv_at hl 4 rfl) ?_
  refine va_slen hx hb hXs hbl hbA hS d_Law_law_26 ?_
  refine lv_bipush (v := 6) hx hb d_Law_law_27 (by decide) ?_
  refine lv_isub hx hb d_Law_law_29 ?_
  refine lv_icmp_gt (tgt := 1035) hx hb d_Law_law_30 (by decide) (fun c9 => absurd ((lw_gt hL (by omega)).mp c9) (by omega)) (fun c9 => ?_)
  refine lv_aload_n hx hb d_Law_law_33 rfl (lv_at hl 4 rfl) ?_
  refine lv_iload hx hb d_Law_law_34 (lv_at hl 0 rfl) ?_
  refine va_sld hx hb hXs hbl hbA hS (nI_in (c := i) (N := L) (by omega) (by omega)) d_Law_law_36 ?_
  refine fg_topi (y := xs i) (by rw [nI_clamp (by omega)]) ?_
  refine lv_bipush (v := 15) hx hb d_Law_law_37 (by decide) ?_
  refine lv_iand hx hb d_Law_law_39 ?_
  refine lv_topi (fun y9 ey9 => ?_)
  by_cases n0 : y9 = 0
  · subst n0
    refine lv_tableIn (off := 80) (tgt := 120) hx hb d_Law_law_40 (by decide) (by decide) (by decide) (by decide) ?_
    have h9 := hs.1 ey9.symm
    obtain ⟨z0, h9a, h9b⟩ := h9
    exact law_0  hl9 hx hb hml hown hts hX hz hy hXs hbl hbA hA hK hL hi hwf hwr hcl h00 h10 hjo hP hD hS hl hfit h9a h9b kk
  by_cases n1 : y9 = 1
  · subst n1
    refine lv_tableIn (off := 153) (tgt := 193) hx hb d_Law_law_40 (by decide) (by decide) (by decide) (by decide) ?_
    have h9 := hs.2.1 ey9.symm
    rcases h9 with h9 | h9 | h9
    · obtain ⟨z0, z1, h9a, h9b, h9c, h9d, h9e⟩ := h9
      exact law_1_0 h9a hl9 hx hb hml hown hts hX hz hy hXs hbl hbA hA hK hL hi hwf hwr hcl h00 h10 hjo hP hD hS hl hfit h9b h9c h9d h9e kk
    · obtain ⟨z0, z1, h9a, h9b, h9c⟩ := h9
      exact law_1_1  hl9 hx hb hml hown hts hX hz hy hXs hbl hbA hA hK hL hi hwf hwr hcl h00 h10 hjo hP hD hS hl hfit h9a h9b h9c kk
    · obtain ⟨z0, z1, h9a, h9b, h9c⟩ := h9
      exact law_1_2  hl9 hx hb hml hown hts hX hz hy hXs hbl hbA hA hK hL hi hwf hwr hcl h00 h10 hjo hP hD hS hl hfit h9a h9b h9c kk
  by_cases n2 : y9 = 2
  · subst n2
    refine lv_tableIn (off := 245) (tgt := 285) hx hb d_Law_law_40 (by decide) (by decide) (by decide) (by decide) ?_
    have h9 := hs.2.2.1 ey9.symm
    rcases h9 with h9 | h9
    · obtain ⟨z0, z1, h9a, h9b, h9c, h9d, h9e⟩ := h9
      exact law_2_0 h9a hl9 hx hb hml hown hts hX hz hy hXs hbl hbA hA hK hL hi hwf hwr hcl h00 h10 hjo hP hD hS hl hfit h9b h9c h9d h9e kk
    · obtain ⟨z0, z1, h9a, h9b, h9c⟩ := h9
      exact law_2_1  hl9 hx hb hml hown hts hX hz hy hXs hbl hbA hA hK hL hi hwf hwr hcl h00 h10 hjo hP hD hS hl hfit h9a h9b h9c kk
  by_cases n3 : y9 = 3
  · subst n3
    refine lv_tableIn (off := 313) (tgt := 353) hx hb d_Law_law_40 (by decide) (by decide) (by decide) (by decide) ?_
    have h9 := hs.2.2.2.1 ey9.symm
    obtain ⟨z0, h9a, h9b⟩ := h9
    exact law_3  hl9 hx hb hml hown hts hX hz hy hXs hbl hbA hA hK hL hi hwf hwr hcl h00 h10 hjo hP hD hS hl hfit h9a h9b kk
  by_cases n4 : y9 = 4
  · subst n4
    refine lv_tableIn (off := 338) (tgt := 378) hx hb d_Law_law_40 (by decide) (by decide) (by decide) (by decide) ?_
    have h9 := hs.2.2.2.2.1 ey9.symm
    rcases h9 with h9 | h9
    · obtain ⟨z0, z1, h9a, h9b, h9c, h9d, h9e⟩ := h9
      exact law_4_0 h9a hl9 hx hb hml hown hts hX hz hy hXs hbl hbA hA hK hL hi hwf hwr hcl h00 h10 hjo hP hD hS hl hfit h9b h9c h9d h9e kk
    · obtain ⟨z0, z1, h9a, h9b, h9c⟩ := h9
      exact law_4_1  hl9 hx hb hml hown hts hX hz hy hXs hbl hbA hA hK hL hi hwf hwr hcl h00 h10 hjo hP hD hS hl hfit h9a h9b h9c kk
  by_cases n5 : y9 = 5
  · subst n5
    refine lv_tableIn (off := 405) (tgt := 445) hx hb d_Law_law_40 (by decide) (by decide) (by decide) (by decide) ?_
    have h9 := hs.2.2.2.2.2.1 ey9.symm
    rcases h9 with h9 | h9 | h9 | h9
    · obtain ⟨z0, z1, h9a, h9b, h9c, h9d, h9e, h9f⟩ := h9
      exact law_5_0z0 h9a h9b hl9 hx hb hml hown hts hX hz hy hXs hbl hbA hA hK hL hi hwf hwr hcl h00 h10 hjo hP hD hS hl hfit h9c h9d h9e h9f kk
    · obtain ⟨z0, z1, h9a, h9b, h9c, h9d, h9e, h9f⟩ := h9
      exact law_5_0z1 h9a h9b hl9 hx hb hml hown hts hX hz hy hXs hbl hbA hA hK hL hi hwf hwr hcl h00 h10 hjo hP hD hS hl hfit h9c h9d h9e h9f kk
    · obtain ⟨z0, z1, h9a, h9b, h9c, h9d⟩ := h9
      exact law_5_1z0 h9a hl9 hx hb hml hown hts hX hz hy hXs hbl hbA hA hK hL hi hwf hwr hcl h00 h10 hjo hP hD hS hl hfit h9b h9c h9d kk
    · obtain ⟨z0, z1, h9a, h9b, h9c, h9d⟩ := h9
      exact law_5_1z1 h9a hl9 hx hb hml hown hts hX hz hy hXs hbl hbA hA hK hL hi hwf hwr hcl h00 h10 hjo hP hD hS hl hfit h9b h9c h9d kk
  by_cases n6 : y9 = 6
  · subst n6
    refine lv_tableIn (off := 488) (tgt := 528) hx hb d_Law_law_40 (by decide) (by decide) (by decide) (by decide) ?_
    have h9 := hs.2.2.2.2.2.2.1 ey9.symm
    obtain ⟨z0, h9a, h9b⟩ := h9
    exact law_6  hl9 hx hb hml hown hts hX hz hy hXs hbl hbA hA hK hL hi hwf hwr hcl h00 h10 hjo hP hD hS hl hfit h9a h9b kk
  by_cases n7 : y9 = 7
  · subst n7
    refine lv_tableIn (off := 513) (tgt := 553) hx hb d_Law_law_40 (by decide) (by decide) (by decide) (by decide) ?_
    have h9 := hs.2.2.2.2.2.2.2.1 ey9.symm
    obtain ⟨z0, h9a, h9b⟩ := h9
    exact law_7  hl9 hx hb hml hown hts hX hz hy hXs hbl hbA hA hK hL hi hwf hwr hcl h00 h10 hjo hP hD hS hl hfit h9a h9b kk
  by_cases n8 : y9 = 8
  · subst n8
    refine lv_tableIn (off := 582) (tgt := 622) hx hb d_Law_law_40 (by decide) (by decide) (by decide) (by decide) ?_
    have h9 := hs.2.2.2.2.2.2.2.2.1 ey9.symm
    rcases h9 with h9 | h9
    · obtain ⟨z0, z1, h9a, h9b, h9c, h9d, h9e⟩ := h9
      exact law_8_0 h9a hl9 hx hb hml hown hts hX hz hy hXs hbl hbA hA hK hL hi hwf hwr hcl h00 h10 hjo hP hD hS hl hfit h9b h9c h9d h9e kk
    · obtain ⟨z0, z1, h9a, h9b, h9c⟩ := h9
      exact law_8_1  hl9 hx hb hml hown hts hX hz hy hXs hbl hbA hA hK hL hi hwf hwr hcl h00 h10 hjo hP hD hS hl hfit h9a h9b h9c kk
  by_cases n9 : y9 = 9
  · subst n9
    refine lv_tableIn (off := 638) (tgt := 678) hx hb d_Law_law_40 (by decide) (by decide) (by decide) (by decide) ?_
    have h9 := hs.2.2.2.2.2.2.2.2.2.1 ey9.symm
    rcases h9 with h9 | h9
    · obtain ⟨z0, z1, h9a, h9b, h9c, h9d, h9e⟩ := h9
      exact law_9_0 h9a hl9 hx hb hml hown hts hX hz hy hXs hbl hbA hA hK hL hi hwf hwr hcl h00 h10 hjo hP hD hS hl hfit h9b h9c h9d h9e kk
    · obtain ⟨z0, z1, h9a, h9b, h9c⟩ := h9
      exact law_9_1  hl9 hx hb hml hown hts hX hz hy hXs hbl hbA hA hK hL hi hwf hwr hcl h00 h10 hjo hP hD hS hl hfit h9a h9b h9c kk
  by_cases n10 : y9 = 10
  · subst n10
    refine lv_tableIn (off := 718) (tgt := 758) hx hb d_Law_law_40 (by decide) (by decide) (by decide) (by decide) ?_
    have h9 := hs.2.2.2.2.2.2.2.2.2.2.1 ey9.symm
    rcases h9 with h9 | h9
    · obtain ⟨z0, z1, h9a, h9b, h9c, h9d, h9e⟩ := h9
      exact law_10_0 h9a hl9 hx hb hml hown hts hX hz hy hXs hbl hbA hA hK hL hi hwf hwr hcl h00 h10 hjo hP hD hS hl hfit h9b h9c h9d h9e kk
    · obtain ⟨z0, z1, h9a, h9b, h9c⟩ := h9
      exact law_10_1  hl9 hx hb hml hown hts hX hz hy hXs hbl hbA hA hK hL hi hwf hwr hcl h00 h10 hjo hP hD hS hl hfit h9a h9b h9c kk
  by_cases n11 : y9 = 11
  · subst n11
    refine lv_tableIn (off := 774) (tgt := 814) hx hb d_Law_law_40 (by decide) (by decide) (by decide) (by decide) ?_
    have h9 := hs.2.2.2.2.2.2.2.2.2.2.2.1 ey9.symm
    obtain ⟨h9a, h9b⟩ := h9
    exact law_11  hl9 hx hb hml hown hts hX hz hy hXs hbl hbA hA hK hL hi hwf hwr hcl h00 h10 hjo hP hD hS hl hfit h9a h9b kk
  by_cases n12 : y9 = 12
  · subst n12
    refine lv_tableIn (off := 829) (tgt := 869) hx hb d_Law_law_40 (by decide) (by decide) (by decide) (by decide) ?_
    have h9 := hs.2.2.2.2.2.2.2.2.2.2.2.2.1 ey9.symm
    rcases h9 with h9 | h9 | h9
    · obtain ⟨z0, z1, h9a, h9b, h9c, h9d, h9e⟩ := h9
      exact law_12_0 h9a hl9 hx hb hml hown hts hX hz hy hXs hbl hbA hA hK hL hi hwf hwr hcl h00 h10 hjo hP hD hS hl hfit h9b h9c h9d h9e kk
    · obtain ⟨z0, z1, h9a, h9b, h9c⟩ := h9
      exact law_12_1  hl9 hx hb hml hown hts hX hz hy hXs hbl hbA hA hK hL hi hwf hwr hcl h00 h10 hjo hP hD hS hl hfit h9a h9b h9c kk
    · obtain ⟨z0, z1, h9a, h9b, h9c⟩ := h9
      exact law_12_2  hl9 hx hb hml hown hts hX hz hy hXs hbl hbA hA hK hL hi hwf hwr hcl h00 h10 hjo hP hD hS hl hfit h9a h9b h9c kk
  by_cases n13 : y9 = 13
  · subst n13
    refine lv_tableIn (off := 884) (tgt := 924) hx hb d_Law_law_40 (by decide) (by decide) (by decide) (by decide) ?_
    have h9 := hs.2.2.2.2.2.2.2.2.2.2.2.2.2.1 ey9.symm
    obtain ⟨z0, h9a, h9b⟩ := h9
    exact law_13  hl9 hx hb hml hown hts hX hz hy hXs hbl hbA hA hK hL hi hwf hwr hcl h00 h10 hjo hP hD hS hl hfit h9a h9b kk
  by_cases n14 : y9 = 14
  · subst n14
    refine lv_tableIn (off := 909) (tgt := 949) hx hb d_Law_law_40 (by decide) (by decide) (by decide) (by decide) ?_
    have h9 := hs.2.2.2.2.2.2.2.2.2.2.2.2.2.2.1 ey9.symm
    rcases h9 with h9 | h9
    · obtain ⟨z0, z1, h9a, h9b, h9c, h9d, h9e⟩ := h9
      exact law_14_0 h9a hl9 hx hb hml hown hts hX hz hy hXs hbl hbA hA hK hL hi hwf hwr hcl h00 h10 hjo hP hD hS hl hfit h9b h9c h9d h9e kk
    · obtain ⟨z0, z1, h9a, h9b, h9c⟩ := h9
      exact law_14_1  hl9 hx hb hml hown hts hX hz hy hXs hbl hbA hA hK hL hi hwf hwr hcl h00 h10 hjo hP hD hS hl hfit h9a h9b h9c kk
  by_cases n15 : y9 = 15
  · subst n15
    refine lv_tableIn (off := 964) (tgt := 1004) hx hb d_Law_law_40 (by decide) (by decide) (by decide) (by decide) ?_
    have h9 := hs.2.2.2.2.2.2.2.2.2.2.2.2.2.2.2 ey9.symm
    obtain ⟨z0, h9a, h9b⟩ := h9
    exact law_15  hl9 hx hb hml hown hts hX hz hy hXs hbl hbA hA hK hL hi hwf hwr hcl h00 h10 hjo hP hD hS hl hfit h9a h9b kk
  have in0 := lv_neT n0 (show (0 : Int32).toInt = 0 from rfl)
  have in1 := lv_neT n1 (show (1 : Int32).toInt = 1 from rfl)
  have in2 := lv_neT n2 (show (2 : Int32).toInt = 2 from rfl)
  have in3 := lv_neT n3 (show (3 : Int32).toInt = 3 from rfl)
  have in4 := lv_neT n4 (show (4 : Int32).toInt = 4 from rfl)
  have in5 := lv_neT n5 (show (5 : Int32).toInt = 5 from rfl)
  have in6 := lv_neT n6 (show (6 : Int32).toInt = 6 from rfl)
  have in7 := lv_neT n7 (show (7 : Int32).toInt = 7 from rfl)
  have in8 := lv_neT n8 (show (8 : Int32).toInt = 8 from rfl)
  have in9 := lv_neT n9 (show (9 : Int32).toInt = 9 from rfl)
  have in10 := lv_neT n10 (show (10 : Int32).toInt = 10 from rfl)
  have in11 := lv_neT n11 (show (11 : Int32).toInt = 11 from rfl)
  have in12 := lv_neT n12 (show (12 : Int32).toInt = 12 from rfl)
  have in13 := lv_neT n13 (show (13 : Int32).toInt = 13 from rfl)
  have in14 := lv_neT n14 (show (14 : Int32).toInt = 14 from rfl)
  have in15 := lv_neT n15 (show (15 : Int32).toInt = 15 from rfl)
  obtain ⟨j, hj, ej⟩ := pk_andE (xs i) (m := 15) 4 rfl
  have ej2 : y9.toInt = (j : Int) := by rw [ey9, ej]; exact nI_toInt (by omega)
  have hj2 : j < 16 := hj
  exfalso
  omega
set_option maxHeartbeats 4000000 in
theorem lw_exit {p : Program} {l : Launch} {e : Env} {s : Jvm.State} {m : MethodId} {below : List Frame} {meth : Method} {c : Code} {b L : Nat} {xs : Nat → Int32} {A : Nat → Prop} {i v1 v2 v3 : Nat} {H : Heap} {locs : List Loc} {ls : Array Slot} {cells slots : Nat} (hx : p.tables.exec = Jvm.exec) (hb : c.code = code) (hr : meth.sig.returnType = ret) (hlocks : meth.locks = false) (hXs : va_X b L xs s s.heap) (hbl : b < s.heap.size) (hbA : ¬ A b) (hA2 : ∀ q : Nat, A q → s.heap.size ≤ q) (hL : L ≤ 3072) (hi : i ≤ L) (h6 : ¬ i + 6 ≤ L) (hS : va_S A s.heap H locs) (hl : lv_has ls 8 [(4, .int (nI i)), (3, .ref v3), (2, .ref v2), (1, .ref v1), (0, .ref b)]) (hc : cells ≤ 601024) (hs : slots ≤ 7293034) : W p l e room_1 s m #[Value.ref b] below meth c H locs cells slots (lw_Z below #[Value.ref b] s) (F0 m 23 ls []) := by
  refine lv_iload hx hb d_Law_law_23 (lv_at hl 0 rfl) ?_
  refine lv_aload_n hx hb d_Law_law_25 rfl (lv_at hl 4 rfl) ?_
  refine va_slen hx hb hXs hbl hbA hS d_Law_law_26 ?_
  refine lv_bipush (v := 6) hx hb d_Law_law_27 (by decide) ?_
  refine lv_isub hx hb d_Law_law_29 ?_
  refine lv_icmp_gt (tgt := 1035) hx hb d_Law_law_30 (by decide) (fun c9 => ?_) (fun c9 => absurd ((lw_gt hL hi).mpr (by omega)) c9)
  refine lv_iconst (v := 1) hx hb d_Law_law_1035 (by decide) ?_
  refine va_forget (fun q hq => hA2 _ (hS.2.2 q hq)) ?_
  refine W.widen (k := 601024) (n := 7293034) hc hs ?_
  exact lw_ret hx hb hr hlocks d_Law_law_1036
set_option maxHeartbeats 4000000 in
set_option maxRecDepth 100000 in
theorem lw_loop {p : Program} {l : Launch} {e : Env} {s : Jvm.State} {m : MethodId} {below : List Frame} {meth : Method} {c : Code} {b L : Nat} {xs : Nat → Int32} {A : Nat → Prop} {D : va_G} {ca : Nat → ClassId} {bd : Nat → Nat → Nat} {NR : Nat → Nat} {jo : Nat} (Inv : Nat → me_M → me_M → Prop) (c0 s0 : Nat) (hc0 : c0 + me_CL + 3080 ≤ 601024) (hs0 : s0 + me_SL + 18480 ≤ 7293034) (hr : meth.sig.returnType = ret) (hlocks : meth.locks = false) (hA2 : ∀ q : Nat, A q → s.heap.size ≤ q) (hl9 : l.stackTraces = false) (hx : p.tables.exec = Jvm.exec) (hb : c.code = code) (hml : c.maxLocals = 8) (hown : s.vm.findClass "FilterGuardLaw" = some m.cls) (hts : ∀ w ∈ fg_g, w.before #[Value.ref b] s = true) (hX : fg_X s) (hz : fg_Z A s s.heap) (hy : fg_Y s) (hXs : va_X b L xs s s.heap) (hbl : b < s.heap.size) (hbA : ¬ A b) (hA : ∀ q : Nat, s.heap.size ≤ q → A q) (hK : va_K D classes (me_T ca) s) (hL : L ≤ 3072)  (h10 : 0 < NR 1)
    (hstep : ∀ (i : Nat) (M R : me_M), Inv i M R → i + 6 ≤ L → ∃ M1 R1, lw_Step xs i jo M R M1 R1 ∧ Inv (i + 6) M1 R1) :
    ∀ (n i : Nat) (ad : Nat → Nat → Nat) (N : Nat → Nat) (M R : me_M) (H : Heap) (locs : List Loc) (ls : Array Slot) (cells slots : Nat), L ≤ i + n → i ≤ L → Inv i M R → me_wf N M → me_wf NR R → (me_cN N ≤ me_CL ∧ me_sN N ≤ me_SL) → 0 < N 0 → jo < N 16 → va_P D classes (me_W ad ca M ++ me_W bd ca R) H → va_D A (me_W ad ca M ++ me_W bd ca R) → va_S A s.heap H locs → lv_has ls 8 [(4, .int (nI i)), (3, .ref (ad 16 jo)), (2, .ref (bd 1 0)), (1, .ref (ad 0 0)), (0, .ref b)] → cells ≤ c0 + me_cN N + i → slots ≤ s0 + me_sN N + 6 * i → W p l e room_1 s m #[Value.ref b] below meth c H locs cells slots (lw_Z below #[Value.ref b] s) (F0 m 23 ls []) := by
  intro n
  induction n with
  | zero =>
    intro i ad N M R H locs ls cells slots hn hi hI hwf hwr hcl h00 hjo hP hD hS hl hc hs
    exact lw_exit hx hb hr hlocks hXs hbl hbA hA2 hL hi (by omega) hS hl (by omega) (by omega)
  | succ n ih =>
    intro i ad N M R H locs ls cells slots hn hi hI hwf hwr hcl h00 hjo hP hD hS hl hc hs
    by_cases h6 : i + 6 ≤ L
    · obtain ⟨M1, R1, hst, hI1⟩ := hstep i M R hI h6
      refine lw_turn hl9 hx hb hml hown hts hX hz hy hXs hbl hbA hA hK hL h6 hwf hwr hcl h00 h10 hjo hP hD hS hl ⟨by omega, by omega⟩ hst (fun ad1 N1 H1 locs1 ls1 cells1 slots1 hNN hwf1 hwr1 hcl1 hP1 hD1 hS1 hl1 hc1 hs1 => ?_)
      refine lv_iinc (v := nI (i + 6)) (lv' := [(4, .int (nI (i + 6))), (3, .ref (ad1 16 jo)), (2, .ref (bd 1 0)), (1, .ref (ad1 0 0)), (0, .ref b)]) hx hb d_Law_law_1029 hl1 (k := 0) rfl (nI_add i 6) (by decide) rfl (fun ls2 hl2 => ?_)
      refine lv_goto (tgt := 23) hx hb d_Law_law_1032 (by decide) ?_
      exact ih (i + 6) ad1 N1 M1 R1 H1 locs1 ls2 cells1 slots1 (by omega) (by omega) hI1 hwf1 hwr1 hcl1 (Nat.lt_of_lt_of_le h00 (hNN 0)) (Nat.lt_of_lt_of_le hjo (hNN 16)) hP1 hD1 hS1 hl2 (by omega) (by omega)
    · exact lw_exit hx hb hr hlocks hXs hbl hbA hA2 hL hi h6 hS hl (by omega) (by omega)
