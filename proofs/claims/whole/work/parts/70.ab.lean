theorem d_M_places_12 : decode prog_14_method_12_code 12 = .ok (.iload 8, 2) := by decide +kernel
theorem d_M_places_14 : decode prog_14_method_12_code 14 = .ok (.ifCond .lt 42, 3) := by decide +kernel
theorem d_M_places_56 : decode prog_14_method_12_code 56 = .ok (.lload 6, 2) := by decide +kernel
theorem d_M_places_58 : decode prog_14_method_12_code 58 = .ok (.lreturn, 1) := by decide +kernel
theorem d_M_places_17 : decode prog_14_method_12_code 17 = .ok (.lload 6, 2) := by decide +kernel
theorem d_M_places_19 : decode prog_14_method_12_code 19 = .ok (.lconst 0, 1) := by decide +kernel
theorem d_M_places_20 : decode prog_14_method_12_code 20 = .ok (.lcmp, 1) := by decide +kernel
theorem d_M_places_21 : decode prog_14_method_12_code 21 = .ok (.ifCond .ne 15, 3) := by decide +kernel
theorem d_M_places_36 : decode prog_14_method_12_code 36 = .ok (.lload 6, 2) := by decide +kernel
theorem d_M_places_38 : decode prog_14_method_12_code 38 = .ok (.lconst 1, 1) := by decide +kernel
theorem d_M_places_39 : decode prog_14_method_12_code 39 = .ok (.iload 8, 2) := by decide +kernel
theorem d_M_places_41 : decode prog_14_method_12_code 41 = .ok (.lshl, 1) := by decide +kernel
theorem d_M_places_42 : decode prog_14_method_12_code 42 = .ok (.lor, 1) := by decide +kernel
theorem d_M_places_43 : decode prog_14_method_12_code 43 = .ok (.goto 5, 3) := by decide +kernel
theorem d_M_places_48 : decode prog_14_method_12_code 48 = .ok (.lstore 6, 2) := by decide +kernel
theorem d_M_places_50 : decode prog_14_method_12_code 50 = .ok (.iinc 8 (-1), 3) := by decide +kernel
theorem d_M_places_53 : decode prog_14_method_12_code 53 = .ok (.goto (-41), 3) := by decide +kernel
theorem d_M_places_24 : decode prog_14_method_12_code 24 = .ok (.lload 4, 2) := by decide +kernel
theorem d_M_places_26 : decode prog_14_method_12_code 26 = .ok (.iload 8, 2) := by decide +kernel
theorem d_M_places_28 : decode prog_14_method_12_code 28 = .ok (.lshr, 1) := by decide +kernel
theorem d_M_places_29 : decode prog_14_method_12_code 29 = .ok (.lconst 1, 1) := by decide +kernel
theorem d_M_places_30 : decode prog_14_method_12_code 30 = .ok (.land, 1) := by decide +kernel
theorem d_M_places_31 : decode prog_14_method_12_code 31 = .ok (.lconst 1, 1) := by decide +kernel
theorem d_M_places_32 : decode prog_14_method_12_code 32 = .ok (.lcmp, 1) := by decide +kernel
theorem d_M_places_33 : decode prog_14_method_12_code 33 = .ok (.ifCond .ne 13, 3) := by decide +kernel
theorem d_M_places_46 : decode prog_14_method_12_code 46 = .ok (.lload 6, 2) := by decide +kernel
theorem d_M_places_0 : decode prog_14_method_12_code 0 = .ok (.lload_n 0, 1) := by decide +kernel
theorem d_M_places_1 : decode prog_14_method_12_code 1 = .ok (.lload_n 2, 1) := by decide +kernel
theorem d_M_places_2 : decode prog_14_method_12_code 2 = .ok (.lxor, 1) := by decide +kernel
theorem d_M_places_3 : decode prog_14_method_12_code 3 = .ok (.lstore 4, 2) := by decide +kernel
theorem d_M_places_5 : decode prog_14_method_12_code 5 = .ok (.lconst 0, 1) := by decide +kernel
theorem d_M_places_6 : decode prog_14_method_12_code 6 = .ok (.lstore 6, 2) := by decide +kernel
theorem d_M_places_8 : decode prog_14_method_12_code 8 = .ok (.bipush 63, 2) := by decide +kernel
theorem d_M_places_10 : decode prog_14_method_12_code 10 = .ok (.istore 8, 2) := by decide +kernel
abbrev y_M_places : MethodName := ⟨"FilterGuardModel", "places", "(JJ)J"⟩
def f_M_places_l12 : Nat → Int64 → Int64 → Int32 → Option Int64
  | 0, _, _, _ => none
  | fu + 1, y4, y6, y8 => (if y8 < 0 then some y6 else (if y6 = 0 then (if ((jlshr y4 y8) &&& 1) = 1 then st (y6 ||| (jlshl (1 : Int64) y8)) (fun (v5 : Int64) => f_M_places_l12 fu y4 v5 (y8 + (-1))) else f_M_places_l12 fu y4 y6 (y8 + (-1))) else st (y6 ||| (jlshl (1 : Int64) y8)) (fun (v3 : Int64) => f_M_places_l12 fu y4 v3 (y8 + (-1)))))
def f_M_places (x0 : Int64) (x2 : Int64) : Option Int64 := st (x0 ^^^ x2) (fun (v6 : Int64) => f_M_places_l12 fuel v6 (0 : Int64) (63 : Int32))
def rm_M_places : Room := { frames := 1, cells := 0, slots := 0, locals := 20 }
abbrev q_M_places (D : va_G) (RZ : Int64) (A : Nat → Prop) : Array Value → Jvm.State → Outcome → Jvm.State → Prop := va_Ql (fun r (_ : Unit) => r = RZ ∧ True) (fg_B D A (fun _ => []) (fun _ => [])) A
set_option maxHeartbeats 4000000 in
set_option maxRecDepth 100000 in
theorem c_M_places (l : Launch) (D : va_G) (RZ : Int64) (x0 : Int64) (x2 : Int64) (h : f_M_places x0 x2 = (some RZ)) (sz : Nat) : Met l y_M_places (fg_w y_M_places prog_14_method_12_code 9 (some .long)) rm_M_places (va_Pc [.long x0, .long x2] (fg_P D [] [] sz)) (q_M_places D RZ (va_A [] sz)) rm_M_places.cells rm_M_places.slots (va_A [] sz) := by
  refine fg_enter (fun A => q_M_places D RZ A) (by decide +kernel) (Nat.le_of_ble_eq_true rfl) ?_
  intro p e s m below meth c ls A hx hb hml hown hts hr hlocks hin hP hK hD hS hA hX hl
  have hl : lv_has ls 9 [(0, .long x0), (2, .long x2)] := hl
  unfold f_M_places at h
  have b_12 : ∀ (fu : Nat), ∀ (y4 : Int64) (y6 : Int64) (y8 : Int32) (H : Heap) (locs : List Loc) (ls : Array Slot), f_M_places_l12 fu y4 y6 y8 = (some RZ) → va_S A s.heap H locs → lv_has ls 9 [(4, .long y4), (6, .long y6), (8, .int y8)] → W p l e rm_M_places s m [.long x0, .long x2].toArray below meth c H locs 0 0 (MQ below (q_M_places D RZ A) [.long x0, .long x2].toArray s rm_M_places.cells rm_M_places.slots A) (F0 m 12 ls []) := by
    intro fu
    induction fu with
    | zero =>
      intro y4 y6 y8 H locs ls h hS hl
      cases h
    | succ fu ih =>
      intro y4 y6 y8 H locs ls h hS hl
      unfold f_M_places_l12 at h
      refine lv_iload hx hb d_M_places_12 (lv_at hl 2 rfl) ?_
      refine lv_if_lt (tgt := 56) hx hb d_M_places_14 (by decide) (fun c1 => ?_) (fun c1 => ?_)
      · have h := if_t c1 h
        refine lv_lload hx hb d_M_places_56 (lv_at hl 1 rfl) ?_
        cases h
        exact fg_retl () hx hb hr hlocks ⟨rfl, trivial⟩ me_P0 (hK.sub (tys' := []) [] rfl) me_D0 hS (Nat.le_of_ble_eq_true rfl) (Nat.le_of_ble_eq_true rfl) d_M_places_58
      have h := if_f c1 h
      refine lv_lload hx hb d_M_places_17 (lv_at hl 1 rfl) ?_
      refine lv_lconst (v := 0) hx hb d_M_places_19 (by decide) ?_
      refine W.lcmp hx hb d_M_places_20 ?_
      refine lv_if_ne (tgt := 36) hx hb d_M_places_21 (by decide) (fun c2 => ?_) (fun c2 => ?_)
      · have h := if_f (fun z => c2 ((lg_cmp_eq _ _).mpr z)) h
        refine lv_lload hx hb d_M_places_36 (lv_at hl 1 rfl) ?_
        refine lv_lconst (v := 1) hx hb d_M_places_38 (by decide) ?_
        refine lv_iload hx hb d_M_places_39 (lv_at hl 2 rfl) ?_
        refine lv_lshl (v := jlshl (1 : Int64) y8) hx hb d_M_places_41 rfl ?_
        refine lv_lor hx hb d_M_places_42 ?_
        refine lv_goto (tgt := 48) hx hb d_M_places_43 (by decide) ?_
        obtain ⟨v3, ev3, h⟩ := st_ob h
        refine fg_topl (y := v3) ev3.symm ?_
        refine lv_lstore (lv' := [(6, .long v3), (4, .long y4), (8, .int y8)]) hx hb d_M_places_48 hl (by decide) rfl (fun ls hl => ?_)
        refine lv_iinc (v := y8 + (-1)) (lv' := [(8, .int (y8 + (-1))), (6, .long v3), (4, .long y4)]) hx hb d_M_places_50 hl (k := 2) rfl (by rfl) (by decide) rfl (fun ls hl => ?_)
        refine lv_goto (tgt := 12) hx hb d_M_places_53 (by decide) ?_
        exact ih y4 v3 (y8 + (-1)) _ _ _ h hS (lv_sub hl [2, 1, 0] rfl)
      have h := if_t ((lg_cmp_eq _ _).mp c2) h
      refine lv_lload hx hb d_M_places_24 (lv_at hl 0 rfl) ?_
      refine lv_iload hx hb d_M_places_26 (lv_at hl 2 rfl) ?_
      refine lv_lshr (v := jlshr y4 y8) hx hb d_M_places_28 rfl ?_
      refine lv_lconst (v := 1) hx hb d_M_places_29 (by decide) ?_
      refine lv_land hx hb d_M_places_30 ?_
      refine lv_lconst (v := 1) hx hb d_M_places_31 (by decide) ?_
      refine W.lcmp hx hb d_M_places_32 ?_
      refine lv_if_ne (tgt := 46) hx hb d_M_places_33 (by decide) (fun c4 => ?_) (fun c4 => ?_)
      · have h := if_f (fun z => c4 ((lg_cmp_eq _ _).mpr z)) h
        refine lv_lload hx hb d_M_places_46 (lv_at hl 1 rfl) ?_
        refine lv_lstore (lv' := [(6, .long y6), (4, .long y4), (8, .int y8)]) hx hb d_M_places_48 hl (by decide) rfl (fun ls hl => ?_)
        refine lv_iinc (v := y8 + (-1)) (lv' := [(8, .int (y8 + (-1))), (6, .long y6), (4, .long y4)]) hx hb d_M_places_50 hl (k := 2) rfl (by rfl) (by decide) rfl (fun ls hl => ?_)
        refine lv_goto (tgt := 12) hx hb d_M_places_53 (by decide) ?_
        exact ih y4 y6 (y8 + (-1)) _ _ _ h hS (lv_sub hl [2, 1, 0] rfl)
      have h := if_t ((lg_cmp_eq _ _).mp c4) h
      refine lv_lload hx hb d_M_places_36 (lv_at hl 1 rfl) ?_
      refine lv_lconst (v := 1) hx hb d_M_places_38 (by decide) ?_
      refine lv_iload hx hb d_M_places_39 (lv_at hl 2 rfl) ?_
      refine lv_lshl (v := jlshl (1 : Int64) y8) hx hb d_M_places_41 rfl ?_
      refine lv_lor hx hb d_M_places_42 ?_
      refine lv_goto (tgt := 48) hx hb d_M_places_43 (by decide) ?_
      obtain ⟨v5, ev5, h⟩ := st_ob h
      refine fg_topl (y := v5) ev5.symm ?_
      refine lv_lstore (lv' := [(6, .long v5), (4, .long y4), (8, .int y8)]) hx hb d_M_places_48 hl (by decide) rfl (fun ls hl => ?_)
      refine lv_iinc (v := y8 + (-1)) (lv' := [(8, .int (y8 + (-1))), (6, .long v5), (4, .long y4)]) hx hb d_M_places_50 hl (k := 2) rfl (by rfl) (by decide) rfl (fun ls hl => ?_)
      refine lv_goto (tgt := 12) hx hb d_M_places_53 (by decide) ?_
      exact ih y4 v5 (y8 + (-1)) _ _ _ h hS (lv_sub hl [2, 1, 0] rfl)
  refine lv_lload_n hx hb d_M_places_0 rfl (lv_at hl 0 rfl) ?_
  refine lv_lload_n hx hb d_M_places_1 rfl (lv_at hl 1 rfl) ?_
  refine lv_lxor hx hb d_M_places_2 ?_
  obtain ⟨v6, ev6, h⟩ := st_ob h
  refine fg_topl (y := v6) ev6.symm ?_
  refine lv_lstore (lv' := [(4, .long v6), (0, .long x0), (2, .long x2)]) hx hb d_M_places_3 hl (by decide) rfl (fun ls hl => ?_)
  refine lv_lconst (v := 0) hx hb d_M_places_5 (by decide) ?_
  refine lv_lstore (lv' := [(6, .long 0), (4, .long v6), (0, .long x0), (2, .long x2)]) hx hb d_M_places_6 hl (by decide) rfl (fun ls hl => ?_)
  refine lv_bipush (v := 63) hx hb d_M_places_8 (by decide) ?_
  refine lv_istore (lv' := [(8, .int 63), (6, .long 0), (4, .long v6), (0, .long x0), (2, .long x2)]) hx hb d_M_places_10 hl (by decide) rfl (fun ls hl => ?_)
  exact b_12 _ v6 (0 : Int64) (63 : Int32) _ _ _ h hS (lv_sub hl [2, 1, 0] rfl)
theorem d_M_byBits_0 : decode prog_14_method_13_code 0 = .ok (.aload_n 0, 1) := by decide +kernel
theorem d_M_byBits_1 : decode prog_14_method_13_code 1 = .ok (.getfield 110, 3) := by decide +kernel
theorem d_M_byBits_4 : decode prog_14_method_13_code 4 = .ok (.iload_n 1, 1) := by decide +kernel
theorem d_M_byBits_5 : decode prog_14_method_13_code 5 = .ok (.aload_n 0, 1) := by decide +kernel
theorem d_M_byBits_6 : decode prog_14_method_13_code 6 = .ok (.getfield 110, 3) := by decide +kernel
theorem d_M_byBits_9 : decode prog_14_method_13_code 9 = .ok (.iload_n 1, 1) := by decide +kernel
theorem d_M_byBits_10 : decode prog_14_method_13_code 10 = .ok (.laload, 1) := by decide +kernel
theorem d_M_byBits_11 : decode prog_14_method_13_code 11 = .ok (.aload_n 0, 1) := by decide +kernel
theorem d_M_byBits_12 : decode prog_14_method_13_code 12 = .ok (.getfield 104, 3) := by decide +kernel
theorem d_M_byBits_15 : decode prog_14_method_13_code 15 = .ok (.iload_n 1, 1) := by decide +kernel
theorem d_M_byBits_16 : decode prog_14_method_13_code 16 = .ok (.laload, 1) := by decide +kernel
theorem d_M_byBits_17 : decode prog_14_method_13_code 17 = .ok (.invokestatic 166, 3) := by decide +kernel
theorem u_2151 : Cond.methodLink "FilterGuardModel" 166 ⟨"FilterGuardModel", "greater", "(JJ)J"⟩ ∈ fg_g := fg_in (List.mem_of_getElem? (i := 2151) (by decide +kernel)) rfl
theorem u_2153 : Cond.code ⟨"FilterGuardModel", "greater", "(JJ)J"⟩ prog_14_method_6_code 4 (some .long) ∈ fg_g := fg_in (List.mem_of_getElem? (i := 2153) (by decide +kernel)) rfl
theorem u_2152 : Cond.static ⟨"FilterGuardModel", "greater", "(JJ)J"⟩ ∈ fg_g := fg_in (List.mem_of_getElem? (i := 2152) (by decide +kernel)) rfl
theorem d_M_byBits_20 : decode prog_14_method_13_code 20 = .ok (.lastore, 1) := by decide +kernel
theorem d_M_byBits_21 : decode prog_14_method_13_code 21 = .ok (.aload_n 0, 1) := by decide +kernel
theorem d_M_byBits_22 : decode prog_14_method_13_code 22 = .ok (.getfield 113, 3) := by decide +kernel
theorem d_M_byBits_25 : decode prog_14_method_13_code 25 = .ok (.iload_n 1, 1) := by decide +kernel
theorem d_M_byBits_26 : decode prog_14_method_13_code 26 = .ok (.aload_n 0, 1) := by decide +kernel
theorem d_M_byBits_27 : decode prog_14_method_13_code 27 = .ok (.getfield 113, 3) := by decide +kernel
theorem d_M_byBits_30 : decode prog_14_method_13_code 30 = .ok (.iload_n 1, 1) := by decide +kernel
theorem d_M_byBits_31 : decode prog_14_method_13_code 31 = .ok (.laload, 1) := by decide +kernel
theorem d_M_byBits_32 : decode prog_14_method_13_code 32 = .ok (.aload_n 0, 1) := by decide +kernel
theorem d_M_byBits_33 : decode prog_14_method_13_code 33 = .ok (.getfield 104, 3) := by decide +kernel
theorem d_M_byBits_36 : decode prog_14_method_13_code 36 = .ok (.iload_n 1, 1) := by decide +kernel
theorem d_M_byBits_37 : decode prog_14_method_13_code 37 = .ok (.laload, 1) := by decide +kernel
theorem d_M_byBits_38 : decode prog_14_method_13_code 38 = .ok (.aload_n 0, 1) := by decide +kernel
theorem d_M_byBits_39 : decode prog_14_method_13_code 39 = .ok (.getfield 107, 3) := by decide +kernel
theorem d_M_byBits_42 : decode prog_14_method_13_code 42 = .ok (.iload_n 1, 1) := by decide +kernel
theorem d_M_byBits_43 : decode prog_14_method_13_code 43 = .ok (.laload, 1) := by decide +kernel
theorem d_M_byBits_44 : decode prog_14_method_13_code 44 = .ok (.lor, 1) := by decide +kernel
theorem d_M_byBits_45 : decode prog_14_method_13_code 45 = .ok (.invokestatic 170, 3) := by decide +kernel
theorem u_2154 : Cond.methodLink "FilterGuardModel" 170 ⟨"FilterGuardModel", "lesser", "(JJ)J"⟩ ∈ fg_g := fg_in (List.mem_of_getElem? (i := 2154) (by decide +kernel)) rfl
theorem u_2156 : Cond.code ⟨"FilterGuardModel", "lesser", "(JJ)J"⟩ prog_14_method_5_code 4 (some .long) ∈ fg_g := fg_in (List.mem_of_getElem? (i := 2156) (by decide +kernel)) rfl
theorem u_2155 : Cond.static ⟨"FilterGuardModel", "lesser", "(JJ)J"⟩ ∈ fg_g := fg_in (List.mem_of_getElem? (i := 2155) (by decide +kernel)) rfl
theorem d_M_byBits_48 : decode prog_14_method_13_code 48 = .ok (.lastore, 1) := by decide +kernel
theorem d_M_byBits_49 : decode prog_14_method_13_code 49 = .ok (.aload_n 0, 1) := by decide +kernel
theorem d_M_byBits_50 : decode prog_14_method_13_code 50 = .ok (.iload_n 1, 1) := by decide +kernel
theorem d_M_byBits_51 : decode prog_14_method_13_code 51 = .ok (.invokevirtual 173, 3) := by decide +kernel
theorem u_2157 : Cond.methodLink "FilterGuardModel" 173 ⟨"FilterGuardModel", "isEmpty", "(I)Z"⟩ ∈ fg_g := fg_in (List.mem_of_getElem? (i := 2157) (by decide +kernel)) rfl
theorem u_2160 : Cond.code ⟨"FilterGuardModel", "isEmpty", "(I)Z"⟩ prog_14_method_11_code 2 (some .boolean) ∈ fg_g := fg_in (List.mem_of_getElem? (i := 2160) (by decide +kernel)) rfl
theorem u_2159 : Cond.instanceMethod ⟨"FilterGuardModel", "isEmpty", "(I)Z"⟩ ∈ fg_g := fg_in (List.mem_of_getElem? (i := 2159) (by decide +kernel)) rfl
theorem u_115 : Cond.selects "FilterGuardModel" ⟨"FilterGuardModel", "isEmpty", "(I)Z"⟩ ⟨"FilterGuardModel", "isEmpty", "(I)Z"⟩ ∈ fg_g := fg_in (List.mem_of_getElem? (i := 115) (by decide +kernel)) rfl
theorem d_M_byBits_54 : decode prog_14_method_13_code 54 = .ok (.ifCond .ne 7, 3) := by decide +kernel
theorem d_M_byBits_61 : decode prog_14_method_13_code 61 = .ok (.iconst 0, 1) := by decide +kernel
theorem d_M_byBits_62 : decode prog_14_method_13_code 62 = .ok (.ireturn, 1) := by decide +kernel
theorem d_M_byBits_57 : decode prog_14_method_13_code 57 = .ok (.iconst 1, 1) := by decide +kernel
theorem d_M_byBits_58 : decode prog_14_method_13_code 58 = .ok (.goto 4, 3) := by decide +kernel
abbrev y_M_byBits : MethodName := ⟨"FilterGuardModel", "byBits", "(I)Z"⟩
def f_M_byBits (M0 : me_M) (j0 : Nat) (x1 : Int32) : Option (me_M × Int32) := bd (mR M0 1 j0 54) (fun (j1 : Nat) => gd (¬ (x1 < 0 ∨ mZ M0 16 j1 ≤ x1.toNatClampNeg)) (bd (mR M0 1 j0 52) (fun (j4 : Nat) => gd (¬ (x1 < 0 ∨ mZ M0 16 j4 ≤ x1.toNatClampNeg)) (bd (f_M_greater (mL M0 16 j1 x1.toNatClampNeg) (mL M0 16 j4 x1.toNatClampNeg)) (fun (r7 : Int64) => st (wL M0 16 j1 x1.toNatClampNeg r7) (fun (M8 : me_M) => bd (mR M0 1 j0 55) (fun (j9 : Nat) => gd (¬ (x1 < 0 ∨ mZ M0 16 j9 ≤ x1.toNatClampNeg)) (bd (mR M0 1 j0 53) (fun (j12 : Nat) => gd (¬ (x1 < 0 ∨ mZ M0 16 j12 ≤ x1.toNatClampNeg)) (bd (f_M_lesser (mL M8 16 j9 x1.toNatClampNeg) ((mL M8 16 j4 x1.toNatClampNeg) ||| (mL M8 16 j12 x1.toNatClampNeg))) (fun (r15 : Int64) => st (wL M8 16 j9 x1.toNatClampNeg r15) (fun (M16 : me_M) => b2 (f_M_isEmpty M16 j0 x1) (fun (M17 : me_M) (r18 : Int32) => (if r18 = 0 then some (M17, (1 : Int32)) else some (M17, (0 : Int32))))))))))))))))
def rm_M_byBits : Room := { frames := 3, cells := 0, slots := 0, locals := 66 }
abbrev q_M_byBits (D : va_G) (ad : Nat → Nat → Nat) (ca : Nat → ClassId) (N : Nat → Nat) (M0 MZ : me_M) (RZ : Int32) (A : Nat → Prop) : Array Value → Jvm.State → Outcome → Jvm.State → Prop := va_Qi (fun r (_ : Unit) => r = RZ ∧ me_wf N MZ ∧ me_kp M0 MZ ∧ (RZ = 1 ∨ RZ = 0)) (fg_B D A (fun _ => me_W ad ca MZ) (fun _ => [])) A
set_option maxHeartbeats 4000000 in
set_option maxRecDepth 100000 in
theorem c_M_byBits (l : Launch) (D : va_G) (ad : Nat → Nat → Nat) (ca : Nat → ClassId) (N : Nat → Nat) (M0 MZ : me_M) (RZ : Int32) (j0 : Nat) (x1 : Int32) (h : f_M_byBits M0 j0 x1 = (some (MZ, RZ))) (hwf : me_wf N M0) (hj0 : j0 < N 1) (sz : Nat) : Met l y_M_byBits (fg_w y_M_byBits prog_14_method_13_code 2 (some .boolean)) rm_M_byBits (va_Pc [.ref (ad 1 j0), .int x1] (fz_P D (me_T ca) (me_W ad ca M0) sz)) (q_M_byBits D ad ca N M0 MZ RZ (va_A (me_W ad ca M0) sz)) rm_M_byBits.cells rm_M_byBits.slots (va_A (me_W ad ca M0) sz) := by
  refine fz_enter (fun A => q_M_byBits D ad ca N M0 MZ RZ A) (by decide +kernel) (Nat.le_of_ble_eq_true rfl) ?_
  intro p e s m below meth c ls A hx hb hml hown hts hr hlocks hin hP hK hD hS hA hX hl hz
  have hl : lv_has ls 2 [(0, .ref (ad 1 j0)), (1, .int x1)] := hl
  unfold f_M_byBits at h
  have hkp : me_kp M0 M0 := me_kp.rf
  have hkb := hkp
  refine lv_aload_n hx hb d_M_byBits_0 rfl (lv_at hl 0 rfl) ?_
  refine g_M_54 hx hb hts hown hK hP hwf hj0 (hts _ u_1795) d_M_byBits_1 ?_
  obtain ⟨j1, e2, h⟩ := bd_ob h
  have hj1 : j1 < N 16 := (hwf.2.1 1 j0 54 _ e2 (by decide) hj0)
  refine me_opt (j := j1) e2 ?_
  refine lv_iload_n hx hb d_M_byBits_4 rfl (lv_at hl 1 rfl) ?_
  refine lv_aload_n hx hb d_M_byBits_5 rfl (lv_at hl 0 rfl) ?_
  refine g_M_54 hx hb hts hown hK hP hwf hj0 (hts _ u_1795) d_M_byBits_6 ?_
  refine me_opt (j := j1) e2 ?_
  refine lv_iload_n hx hb d_M_byBits_9 rfl (lv_at hl 1 rfl) ?_
  obtain ⟨g3, h⟩ := gd_ob h
  refine me_lald hx hb hK hP hwf hj1 g3 d_M_byBits_10 ?_
  refine lv_aload_n hx hb d_M_byBits_11 rfl (lv_at hl 0 rfl) ?_
  refine g_M_52 hx hb hts hown hK hP hwf hj0 (hts _ u_1793) d_M_byBits_12 ?_
  obtain ⟨j4, e5, h⟩ := bd_ob h
  have hj4 : j4 < N 16 := (hwf.2.1 1 j0 52 _ e5 (by decide) hj0)
  refine me_opt (j := j4) e5 ?_
  refine lv_iload_n hx hb d_M_byBits_15 rfl (lv_at hl 1 rfl) ?_
  obtain ⟨g6, h⟩ := gd_ob h
  refine me_lald hx hb hK hP hwf hj4 g6 d_M_byBits_16 ?_
  obtain ⟨r7, er7, h⟩ := bd_ob h
  refine me_panl' (r0 := r7) (fg_runS (wc := []) (tc := []) (A2 := A) (As := [.long (mL M0 16 j1 x1.toNatClampNeg), .long (mL M0 16 j4 x1.toNatClampNeg)]) (rest := [.int x1, .ref (ad 16 j1)]) ⟨hx, hb, hml, hown, hts⟩ (c_M_greater l D r7 (mL M0 16 j1 x1.toNatClampNeg) (mL M0 16 j4 x1.toNatClampNeg) er7 _) (by show fg_nm y_M_greater 2; decide +kernel) u_2151 u_2152 u_192 u_2153 ⟨Nat.le_of_ble_eq_true rfl, Nat.le_of_ble_eq_true rfl⟩ hX me_P0 (hK.sub (tys' := []) [] rfl) me_D0 rfl hl.1 (Nat.le_of_ble_eq_true rfl) d_M_byBits_17 ⟨Nat.le_of_ble_eq_true rfl, Nat.le_of_ble_eq_true rfl⟩) hP hD hK hS hA rfl rfl (fun H locs hw hP hD hS => ?_)
  obtain ⟨M8, eM8, h⟩ := st_ob h
  refine me_last eM8 hx hb hK hP hD hwf hS hj1 g3 d_M_byBits_20 (fun H locs hP hD hwf hS => ?_)
  have hkp := kp_L eM8 hkp
  refine lv_aload_n hx hb d_M_byBits_21 rfl (lv_at hl 0 rfl) ?_
  refine g_M_55 hx hb hts hown hK hP hwf hj0 (hts _ u_1796) d_M_byBits_22 ?_
  obtain ⟨j9, e10, h⟩ := bd_ob h
  have hj9 : j9 < N 16 := (hwf.2.1 1 j0 55 _ (kp_r hkb hkp e10) (by decide) hj0)
  refine me_opt (j := j9) (kp_r hkb hkp e10) ?_
  refine lv_iload_n hx hb d_M_byBits_25 rfl (lv_at hl 1 rfl) ?_
  refine lv_aload_n hx hb d_M_byBits_26 rfl (lv_at hl 0 rfl) ?_
  refine g_M_55 hx hb hts hown hK hP hwf hj0 (hts _ u_1796) d_M_byBits_27 ?_
  refine me_opt (j := j9) (kp_r hkb hkp e10) ?_
  refine lv_iload_n hx hb d_M_byBits_30 rfl (lv_at hl 1 rfl) ?_
  obtain ⟨g11, h⟩ := gd_ob h
  refine me_lald hx hb hK hP hwf hj9 (kp_z hkb.z hkp.z g11) d_M_byBits_31 ?_
  refine lv_aload_n hx hb d_M_byBits_32 rfl (lv_at hl 0 rfl) ?_
  refine g_M_52 hx hb hts hown hK hP hwf hj0 (hts _ u_1793) d_M_byBits_33 ?_
  refine me_opt (j := j4) (kp_r hkb hkp e5) ?_
  refine lv_iload_n hx hb d_M_byBits_36 rfl (lv_at hl 1 rfl) ?_
  refine me_lald hx hb hK hP hwf hj4 (kp_z hkb.z hkp.z g6) d_M_byBits_37 ?_
  refine lv_aload_n hx hb d_M_byBits_38 rfl (lv_at hl 0 rfl) ?_
  refine g_M_53 hx hb hts hown hK hP hwf hj0 (hts _ u_1794) d_M_byBits_39 ?_
  obtain ⟨j12, e13, h⟩ := bd_ob h
  have hj12 : j12 < N 16 := (hwf.2.1 1 j0 53 _ (kp_r hkb hkp e13) (by decide) hj0)
  refine me_opt (j := j12) (kp_r hkb hkp e13) ?_
  refine lv_iload_n hx hb d_M_byBits_42 rfl (lv_at hl 1 rfl) ?_
  obtain ⟨g14, h⟩ := gd_ob h
  refine me_lald hx hb hK hP hwf hj12 (kp_z hkb.z hkp.z g14) d_M_byBits_43 ?_
  refine lv_lor hx hb d_M_byBits_44 ?_
  obtain ⟨r15, er15, h⟩ := bd_ob h
  refine me_panl' (r0 := r15) (fg_runS (wc := []) (tc := []) (A2 := A) (As := [.long (mL M8 16 j9 x1.toNatClampNeg), .long ((mL M8 16 j4 x1.toNatClampNeg) ||| (mL M8 16 j12 x1.toNatClampNeg))]) (rest := [.int x1, .ref (ad 16 j9)]) ⟨hx, hb, hml, hown, hts⟩ (c_M_lesser l D r15 (mL M8 16 j9 x1.toNatClampNeg) ((mL M8 16 j4 x1.toNatClampNeg) ||| (mL M8 16 j12 x1.toNatClampNeg)) er15 _) (by show fg_nm y_M_lesser 2; decide +kernel) u_2154 u_2155 u_192 u_2156 ⟨Nat.le_of_ble_eq_true rfl, Nat.le_of_ble_eq_true rfl⟩ hX me_P0 (hK.sub (tys' := []) [] rfl) me_D0 rfl hl.1 (Nat.le_of_ble_eq_true rfl) d_M_byBits_45 ⟨Nat.le_of_ble_eq_true rfl, Nat.le_of_ble_eq_true rfl⟩) hP hD hK hS hA rfl rfl (fun H locs hw hP hD hS => ?_)
  obtain ⟨M16, eM16, h⟩ := st_ob h
  refine me_last eM16 hx hb hK hP hD hwf hS hj9 (kp_z hkb.z hkp.z g11) d_M_byBits_48 (fun H locs hP hD hwf hS => ?_)
  have hkp := kp_L eM16 hkp
  refine lv_aload_n hx hb d_M_byBits_49 rfl (lv_at hl 0 rfl) ?_
  refine lv_iload_n hx hb d_M_byBits_50 rfl (lv_at hl 1 rfl) ?_
  obtain ⟨M17, r18, eM17, h⟩ := b2_ob h
  refine me_theni0 (M1 := M17) (me_runV (C := "FilterGuardModel") (As := [.int x1]) (rest := []) ⟨hx, hb, hml, hown, hts⟩ (c_M_isEmpty l D ad ca N M16 M17 r18 j0 x1 eM17 hwf hj0 _) rfl (by show fg_nm y_M_isEmpty 1; decide +kernel) u_2157 u_2159 u_115 u_192 u_2160 ⟨Nat.le_of_ble_eq_true rfl, Nat.le_of_ble_eq_true rfl⟩ hX hz hK hP hD hwf hS hA hj0 (by decide) rfl rfl rfl hl.1 (Nat.le_of_ble_eq_true rfl) d_M_byBits_51 ⟨Nat.le_of_ble_eq_true rfl, Nat.le_of_ble_eq_true rfl⟩) hP hD hK hS hA rfl rfl (fun H locs hw hP hD hS => ?_)
  obtain ⟨hwf, hk9, zr18⟩ := hw
  have hkp := hkp.tr hk9
  refine lv_if_ne (tgt := 61) hx hb d_M_byBits_54 (by decide) (fun c19 => ?_) (fun c19 => ?_)
  · have h := if_f c19 h
    refine lv_iconst (v := 0) hx hb d_M_byBits_61 (by decide) ?_
    have z20 : (0 : Int32) = 1 ∨ (0 : Int32) = 0 := (by decide)
    cases h
    exact fg_retz () hx hb hr hlocks (me_nz z20) ⟨rfl, ⟨hwf, hkp, z20⟩⟩ hP (hK.sub (tys' := []) [] rfl) hD hS (Nat.le_of_ble_eq_true rfl) (Nat.le_of_ble_eq_true rfl) d_M_byBits_62
  have h := if_t c19 h
  refine lv_iconst (v := 1) hx hb d_M_byBits_57 (by decide) ?_
  refine lv_goto (tgt := 62) hx hb d_M_byBits_58 (by decide) ?_
  have z21 : (1 : Int32) = 1 ∨ (1 : Int32) = 0 := (by decide)
  cases h
  exact fg_retz () hx hb hr hlocks (me_nz z21) ⟨rfl, ⟨hwf, hkp, z21⟩⟩ hP (hK.sub (tys' := []) [] rfl) hD hS (Nat.le_of_ble_eq_true rfl) (Nat.le_of_ble_eq_true rfl) d_M_byBits_62
theorem d_M_toSigned_71 : decode prog_14_method_14_code 71 = .ok (.lastore, 1) := by decide +kernel
theorem d_M_toSigned_72 : decode prog_14_method_14_code 72 = .ok (.aload_n 0, 1) := by decide +kernel
theorem d_M_toSigned_73 : decode prog_14_method_14_code 73 = .ok (.getfield 119, 3) := by decide +kernel
theorem d_M_toSigned_76 : decode prog_14_method_14_code 76 = .ok (.iload_n 1, 1) := by decide +kernel
theorem d_M_toSigned_77 : decode prog_14_method_14_code 77 = .ok (.aload_n 0, 1) := by decide +kernel
theorem d_M_toSigned_78 : decode prog_14_method_14_code 78 = .ok (.getfield 119, 3) := by decide +kernel
theorem d_M_toSigned_81 : decode prog_14_method_14_code 81 = .ok (.iload_n 1, 1) := by decide +kernel
theorem d_M_toSigned_82 : decode prog_14_method_14_code 82 = .ok (.laload, 1) := by decide +kernel
theorem d_M_toSigned_83 : decode prog_14_method_14_code 83 = .ok (.aload_n 0, 1) := by decide +kernel
theorem d_M_toSigned_84 : decode prog_14_method_14_code 84 = .ok (.getfield 113, 3) := by decide +kernel
theorem d_M_toSigned_87 : decode prog_14_method_14_code 87 = .ok (.iload_n 1, 1) := by decide +kernel
theorem d_M_toSigned_88 : decode prog_14_method_14_code 88 = .ok (.laload, 1) := by decide +kernel
theorem d_M_toSigned_89 : decode prog_14_method_14_code 89 = .ok (.lcmp, 1) := by decide +kernel
theorem d_M_toSigned_90 : decode prog_14_method_14_code 90 = .ok (.ifCond .ge 12, 3) := by decide +kernel
theorem d_M_toSigned_102 : decode prog_14_method_14_code 102 = .ok (.aload_n 0, 1) := by decide +kernel
theorem d_M_toSigned_103 : decode prog_14_method_14_code 103 = .ok (.getfield 113, 3) := by decide +kernel
theorem d_M_toSigned_106 : decode prog_14_method_14_code 106 = .ok (.iload_n 1, 1) := by decide +kernel
theorem d_M_toSigned_107 : decode prog_14_method_14_code 107 = .ok (.laload, 1) := by decide +kernel
theorem d_M_toSigned_108 : decode prog_14_method_14_code 108 = .ok (.lastore, 1) := by decide +kernel
theorem d_M_toSigned_109 : decode prog_14_method_14_code 109 = .ok (.aload_n 0, 1) := by decide +kernel
theorem d_M_toSigned_110 : decode prog_14_method_14_code 110 = .ok (.iload_n 1, 1) := by decide +kernel
theorem d_M_toSigned_111 : decode prog_14_method_14_code 111 = .ok (.invokevirtual 173, 3) := by decide +kernel
theorem d_M_toSigned_114 : decode prog_14_method_14_code 114 = .ok (.ifCond .ne 7, 3) := by decide +kernel
theorem d_M_toSigned_121 : decode prog_14_method_14_code 121 = .ok (.iconst 0, 1) := by decide +kernel
theorem d_M_toSigned_122 : decode prog_14_method_14_code 122 = .ok (.ireturn, 1) := by decide +kernel
theorem d_M_toSigned_117 : decode prog_14_method_14_code 117 = .ok (.iconst 1, 1) := by decide +kernel
theorem d_M_toSigned_118 : decode prog_14_method_14_code 118 = .ok (.goto 4, 3) := by decide +kernel
theorem d_M_toSigned_93 : decode prog_14_method_14_code 93 = .ok (.aload_n 0, 1) := by decide +kernel
theorem d_M_toSigned_94 : decode prog_14_method_14_code 94 = .ok (.getfield 119, 3) := by decide +kernel
theorem d_M_toSigned_97 : decode prog_14_method_14_code 97 = .ok (.iload_n 1, 1) := by decide +kernel
theorem d_M_toSigned_98 : decode prog_14_method_14_code 98 = .ok (.laload, 1) := by decide +kernel
theorem d_M_toSigned_99 : decode prog_14_method_14_code 99 = .ok (.goto 9, 3) := by decide +kernel
theorem d_M_toSigned_32 : decode prog_14_method_14_code 32 = .ok (.if_icmp .ne 77, 3) := by decide +kernel
theorem d_M_toSigned_35 : decode prog_14_method_14_code 35 = .ok (.aload_n 0, 1) := by decide +kernel
theorem d_M_toSigned_36 : decode prog_14_method_14_code 36 = .ok (.getfield 116, 3) := by decide +kernel
theorem d_M_toSigned_39 : decode prog_14_method_14_code 39 = .ok (.iload_n 1, 1) := by decide +kernel
theorem d_M_toSigned_40 : decode prog_14_method_14_code 40 = .ok (.aload_n 0, 1) := by decide +kernel
theorem d_M_toSigned_41 : decode prog_14_method_14_code 41 = .ok (.getfield 116, 3) := by decide +kernel
theorem d_M_toSigned_44 : decode prog_14_method_14_code 44 = .ok (.iload_n 1, 1) := by decide +kernel
theorem d_M_toSigned_45 : decode prog_14_method_14_code 45 = .ok (.laload, 1) := by decide +kernel
theorem d_M_toSigned_46 : decode prog_14_method_14_code 46 = .ok (.aload_n 0, 1) := by decide +kernel
theorem d_M_toSigned_47 : decode prog_14_method_14_code 47 = .ok (.getfield 110, 3) := by decide +kernel
theorem d_M_toSigned_50 : decode prog_14_method_14_code 50 = .ok (.iload_n 1, 1) := by decide +kernel
theorem d_M_toSigned_51 : decode prog_14_method_14_code 51 = .ok (.laload, 1) := by decide +kernel
theorem d_M_toSigned_52 : decode prog_14_method_14_code 52 = .ok (.lcmp, 1) := by decide +kernel
theorem d_M_toSigned_53 : decode prog_14_method_14_code 53 = .ok (.ifCond .le 12, 3) := by decide +kernel
theorem d_M_toSigned_65 : decode prog_14_method_14_code 65 = .ok (.aload_n 0, 1) := by decide +kernel
theorem d_M_toSigned_66 : decode prog_14_method_14_code 66 = .ok (.getfield 110, 3) := by decide +kernel
theorem d_M_toSigned_69 : decode prog_14_method_14_code 69 = .ok (.iload_n 1, 1) := by decide +kernel
theorem d_M_toSigned_70 : decode prog_14_method_14_code 70 = .ok (.laload, 1) := by decide +kernel
theorem d_M_toSigned_56 : decode prog_14_method_14_code 56 = .ok (.aload_n 0, 1) := by decide +kernel
theorem d_M_toSigned_57 : decode prog_14_method_14_code 57 = .ok (.getfield 116, 3) := by decide +kernel
theorem d_M_toSigned_60 : decode prog_14_method_14_code 60 = .ok (.iload_n 1, 1) := by decide +kernel
theorem d_M_toSigned_61 : decode prog_14_method_14_code 61 = .ok (.laload, 1) := by decide +kernel
theorem d_M_toSigned_62 : decode prog_14_method_14_code 62 = .ok (.goto 9, 3) := by decide +kernel
theorem d_M_toSigned_16 : decode prog_14_method_14_code 16 = .ok (.aload_n 0, 1) := by decide +kernel
theorem d_M_toSigned_17 : decode prog_14_method_14_code 17 = .ok (.getfield 113, 3) := by decide +kernel
theorem d_M_toSigned_20 : decode prog_14_method_14_code 20 = .ok (.iload_n 1, 1) := by decide +kernel
theorem d_M_toSigned_21 : decode prog_14_method_14_code 21 = .ok (.laload, 1) := by decide +kernel
theorem d_M_toSigned_22 : decode prog_14_method_14_code 22 = .ok (.lconst 0, 1) := by decide +kernel
theorem d_M_toSigned_23 : decode prog_14_method_14_code 23 = .ok (.lcmp, 1) := by decide +kernel
theorem d_M_toSigned_24 : decode prog_14_method_14_code 24 = .ok (.ifCond .ge 7, 3) := by decide +kernel
theorem d_M_toSigned_31 : decode prog_14_method_14_code 31 = .ok (.iconst 0, 1) := by decide +kernel
theorem d_M_toSigned_27 : decode prog_14_method_14_code 27 = .ok (.iconst 1, 1) := by decide +kernel
theorem d_M_toSigned_28 : decode prog_14_method_14_code 28 = .ok (.goto 4, 3) := by decide +kernel
theorem d_M_toSigned_0 : decode prog_14_method_14_code 0 = .ok (.aload_n 0, 1) := by decide +kernel
theorem d_M_toSigned_1 : decode prog_14_method_14_code 1 = .ok (.getfield 110, 3) := by decide +kernel
theorem d_M_toSigned_4 : decode prog_14_method_14_code 4 = .ok (.iload_n 1, 1) := by decide +kernel
theorem d_M_toSigned_5 : decode prog_14_method_14_code 5 = .ok (.laload, 1) := by decide +kernel
theorem d_M_toSigned_6 : decode prog_14_method_14_code 6 = .ok (.lconst 0, 1) := by decide +kernel
theorem d_M_toSigned_7 : decode prog_14_method_14_code 7 = .ok (.lcmp, 1) := by decide +kernel
theorem d_M_toSigned_8 : decode prog_14_method_14_code 8 = .ok (.ifCond .ge 7, 3) := by decide +kernel
theorem d_M_toSigned_15 : decode prog_14_method_14_code 15 = .ok (.iconst 0, 1) := by decide +kernel
theorem d_M_toSigned_11 : decode prog_14_method_14_code 11 = .ok (.iconst 1, 1) := by decide +kernel
theorem d_M_toSigned_12 : decode prog_14_method_14_code 12 = .ok (.goto 4, 3) := by decide +kernel
abbrev y_M_toSigned : MethodName := ⟨"FilterGuardModel", "toSigned", "(I)Z"⟩
def f_M_toSigned_b71 (j0 : Nat) (x1 : Int32) (M : me_M) (s0 : Int64) (s1 : Int32) (s2 : Nat) : Option (me_M × Int32) := gd (¬ (s1 < 0 ∨ mZ M 16 s2 ≤ s1.toNatClampNeg)) (st (wL M 16 s2 s1.toNatClampNeg s0) (fun (M2 : me_M) => bd (mR M 1 j0 57) (fun (j3 : Nat) => gd (¬ (x1 < 0 ∨ mZ M 16 j3 ≤ x1.toNatClampNeg)) (bd (mR M 1 j0 55) (fun (j6 : Nat) => gd (¬ (x1 < 0 ∨ mZ M 16 j6 ≤ x1.toNatClampNeg)) ((if (mL M2 16 j3 x1.toNatClampNeg) < (mL M2 16 j6 x1.toNatClampNeg) then st (wL M2 16 j3 x1.toNatClampNeg (mL M2 16 j3 x1.toNatClampNeg)) (fun (M16 : me_M) => b2 (f_M_isEmpty M16 j0 x1) (fun (M17 : me_M) (r18 : Int32) => (if r18 = 0 then some (M17, (1 : Int32)) else some (M17, (0 : Int32))))) else st (wL M2 16 j3 x1.toNatClampNeg (mL M2 16 j6 x1.toNatClampNeg)) (fun (M10 : me_M) => b2 (f_M_isEmpty M10 j0 x1) (fun (M11 : me_M) (r12 : Int32) => (if r12 = 0 then some (M11, (1 : Int32)) else some (M11, (0 : Int32))))))))))))
def f_M_toSigned_b32 (j0 : Nat) (x1 : Int32) (M : me_M) (s0 : Int32) (s1 : Int32) : Option (me_M × Int32) := (if s1 = s0 then bd (mR M 1 j0 56) (fun (j28 : Nat) => gd (¬ (x1 < 0 ∨ mZ M 16 j28 ≤ x1.toNatClampNeg)) (bd (mR M 1 j0 54) (fun (j31 : Nat) => gd (¬ (x1 < 0 ∨ mZ M 16 j31 ≤ x1.toNatClampNeg)) ((if (mL M 16 j31 x1.toNatClampNeg) < (mL M 16 j28 x1.toNatClampNeg) then f_M_toSigned_b71 j0 x1 M (mL M 16 j28 x1.toNatClampNeg) x1 j28 else f_M_toSigned_b71 j0 x1 M (mL M 16 j31 x1.toNatClampNeg) x1 j28))))) else b2 (f_M_isEmpty M j0 x1) (fun (M23 : me_M) (r24 : Int32) => (if r24 = 0 then some (M23, (1 : Int32)) else some (M23, (0 : Int32)))))
def f_M_toSigned_b16 (j0 : Nat) (x1 : Int32) (M : me_M) (s0 : Int32) : Option (me_M × Int32) := bd (mR M 1 j0 55) (fun (j35 : Nat) => gd (¬ (x1 < 0 ∨ mZ M 16 j35 ≤ x1.toNatClampNeg)) ((if (mL M 16 j35 x1.toNatClampNeg) < 0 then f_M_toSigned_b32 j0 x1 M (1 : Int32) s0 else f_M_toSigned_b32 j0 x1 M (0 : Int32) s0)))
def f_M_toSigned (M0 : me_M) (j0 : Nat) (x1 : Int32) : Option (me_M × Int32) := bd (mR M0 1 j0 54) (fun (j39 : Nat) => gd (¬ (x1 < 0 ∨ mZ M0 16 j39 ≤ x1.toNatClampNeg)) ((if (mL M0 16 j39 x1.toNatClampNeg) < 0 then f_M_toSigned_b16 j0 x1 M0 (1 : Int32) else f_M_toSigned_b16 j0 x1 M0 (0 : Int32))))
def rm_M_toSigned : Room := { frames := 3, cells := 0, slots := 0, locals := 64 }
abbrev q_M_toSigned (D : va_G) (ad : Nat → Nat → Nat) (ca : Nat → ClassId) (N : Nat → Nat) (M0 MZ : me_M) (RZ : Int32) (A : Nat → Prop) : Array Value → Jvm.State → Outcome → Jvm.State → Prop := va_Qi (fun r (_ : Unit) => r = RZ ∧ me_wf N MZ ∧ me_kp M0 MZ ∧ (RZ = 1 ∨ RZ = 0)) (fg_B D A (fun _ => me_W ad ca MZ) (fun _ => [])) A
set_option maxHeartbeats 4000000 in
set_option maxRecDepth 100000 in
theorem c_M_toSigned (l : Launch) (D : va_G) (ad : Nat → Nat → Nat) (ca : Nat → ClassId) (N : Nat → Nat) (M0 MZ : me_M) (RZ : Int32) (j0 : Nat) (x1 : Int32) (h : f_M_toSigned M0 j0 x1 = (some (MZ, RZ))) (hwf : me_wf N M0) (hj0 : j0 < N 1) (sz : Nat) : Met l y_M_toSigned (fg_w y_M_toSigned prog_14_method_14_code 2 (some .boolean)) rm_M_toSigned (va_Pc [.ref (ad 1 j0), .int x1] (fz_P D (me_T ca) (me_W ad ca M0) sz)) (q_M_toSigned D ad ca N M0 MZ RZ (va_A (me_W ad ca M0) sz)) rm_M_toSigned.cells rm_M_toSigned.slots (va_A (me_W ad ca M0) sz) := by
  refine fz_enter (fun A => q_M_toSigned D ad ca N M0 MZ RZ A) (by decide +kernel) (Nat.le_of_ble_eq_true rfl) ?_
  intro p e s m below meth c ls A hx hb hml hown hts hr hlocks hin hP hK hD hS hA hX hl hz
  have hl : lv_has ls 2 [(0, .ref (ad 1 j0)), (1, .int x1)] := hl
  unfold f_M_toSigned at h
  have hkp : me_kp M0 M0 := me_kp.rf
  have hkb := hkp
  have b_71 : ∀ (M : me_M) (s0 : Int64) (s1 : Int32) (s2 : Nat) (H : Heap) (locs : List Loc) (ls : Array Slot), f_M_toSigned_b71 j0 x1 M s0 s1 s2 = (some (MZ, RZ)) → (s2 < N 16) → me_wf N M → me_kp M0 M → va_P D classes (me_W ad ca M) H → va_D A (me_W ad ca M) → va_S A s.heap H locs → lv_has ls 2 [(0, .ref (ad 1 j0)), (1, .int x1)] → W p l e rm_M_toSigned s m [.ref (ad 1 j0), .int x1].toArray below meth c H locs 0 0 (MQ below (q_M_toSigned D ad ca N M0 MZ RZ A) [.ref (ad 1 j0), .int x1].toArray s rm_M_toSigned.cells rm_M_toSigned.slots A) (F0 m 71 ls [.long s0, .int s1, .ref (ad 16 s2)]) := by
    intro M s0 s1 s2 H locs ls h hs2 hwf hkp hP hD hS hl
    unfold f_M_toSigned_b71 at h
    have hkb := hkp
    obtain ⟨g1, h⟩ := gd_ob h
    obtain ⟨M2, eM2, h⟩ := st_ob h
    refine me_last eM2 hx hb hK hP hD hwf hS hs2 g1 d_M_toSigned_71 (fun H locs hP hD hwf hS => ?_)
    have hkp := kp_L eM2 hkp
    refine lv_aload_n hx hb d_M_toSigned_72 rfl (lv_at hl 0 rfl) ?_
    refine g_M_57 hx hb hts hown hK hP hwf hj0 (hts _ u_1798) d_M_toSigned_73 ?_
    obtain ⟨j3, e4, h⟩ := bd_ob h
    have hj3 : j3 < N 16 := (hwf.2.1 1 j0 57 _ (kp_r hkb hkp e4) (by decide) hj0)
    refine me_opt (j := j3) (kp_r hkb hkp e4) ?_
    refine lv_iload_n hx hb d_M_toSigned_76 rfl (lv_at hl 1 rfl) ?_
    refine lv_aload_n hx hb d_M_toSigned_77 rfl (lv_at hl 0 rfl) ?_
    refine g_M_57 hx hb hts hown hK hP hwf hj0 (hts _ u_1798) d_M_toSigned_78 ?_
    refine me_opt (j := j3) (kp_r hkb hkp e4) ?_
    refine lv_iload_n hx hb d_M_toSigned_81 rfl (lv_at hl 1 rfl) ?_
    obtain ⟨g5, h⟩ := gd_ob h
    refine me_lald hx hb hK hP hwf hj3 (kp_z hkb.z hkp.z g5) d_M_toSigned_82 ?_
    refine lv_aload_n hx hb d_M_toSigned_83 rfl (lv_at hl 0 rfl) ?_
    refine g_M_55 hx hb hts hown hK hP hwf hj0 (hts _ u_1796) d_M_toSigned_84 ?_
    obtain ⟨j6, e7, h⟩ := bd_ob h
    have hj6 : j6 < N 16 := (hwf.2.1 1 j0 55 _ (kp_r hkb hkp e7) (by decide) hj0)
    refine me_opt (j := j6) (kp_r hkb hkp e7) ?_
    refine lv_iload_n hx hb d_M_toSigned_87 rfl (lv_at hl 1 rfl) ?_
    obtain ⟨g8, h⟩ := gd_ob h
    refine me_lald hx hb hK hP hwf hj6 (kp_z hkb.z hkp.z g8) d_M_toSigned_88 ?_
    refine W.lcmp hx hb d_M_toSigned_89 ?_
    refine lv_if_ge (tgt := 102) hx hb d_M_toSigned_90 (by decide) (fun c9 => ?_) (fun c9 => ?_)
    · have h := if_f (Int64.not_lt.mpr ((lg_cmp_ge _ _).mp c9)) h
      refine lv_aload_n hx hb d_M_toSigned_102 rfl (lv_at hl 0 rfl) ?_
      refine g_M_55 hx hb hts hown hK hP hwf hj0 (hts _ u_1796) d_M_toSigned_103 ?_
      refine me_opt (j := j6) (kp_r hkb hkp e7) ?_
      refine lv_iload_n hx hb d_M_toSigned_106 rfl (lv_at hl 1 rfl) ?_
      refine me_lald hx hb hK hP hwf hj6 (kp_z hkb.z hkp.z g8) d_M_toSigned_107 ?_
      obtain ⟨M10, eM10, h⟩ := st_ob h
      refine me_last eM10 hx hb hK hP hD hwf hS hj3 (kp_z hkb.z hkp.z g5) d_M_toSigned_108 (fun H locs hP hD hwf hS => ?_)
      have hkp := kp_L eM10 hkp
      refine lv_aload_n hx hb d_M_toSigned_109 rfl (lv_at hl 0 rfl) ?_
      refine lv_iload_n hx hb d_M_toSigned_110 rfl (lv_at hl 1 rfl) ?_
      obtain ⟨M11, r12, eM11, h⟩ := b2_ob h
      refine me_theni0 (M1 := M11) (me_runV (C := "FilterGuardModel") (As := [.int x1]) (rest := []) ⟨hx, hb, hml, hown, hts⟩ (c_M_isEmpty l D ad ca N M10 M11 r12 j0 x1 eM11 hwf hj0 _) rfl (by show fg_nm y_M_isEmpty 1; decide +kernel) u_2157 u_2159 u_115 u_192 u_2160 ⟨Nat.le_of_ble_eq_true rfl, Nat.le_of_ble_eq_true rfl⟩ hX hz hK hP hD hwf hS hA hj0 (by decide) rfl rfl rfl hl.1 (Nat.le_of_ble_eq_true rfl) d_M_toSigned_111 ⟨Nat.le_of_ble_eq_true rfl, Nat.le_of_ble_eq_true rfl⟩) hP hD hK hS hA rfl rfl (fun H locs hw hP hD hS => ?_)
      obtain ⟨hwf, hk9, zr12⟩ := hw
      have hkp := hkp.tr hk9
      refine lv_if_ne (tgt := 121) hx hb d_M_toSigned_114 (by decide) (fun c13 => ?_) (fun c13 => ?_)
      · have h := if_f c13 h
        refine lv_iconst (v := 0) hx hb d_M_toSigned_121 (by decide) ?_
        have z14 : (0 : Int32) = 1 ∨ (0 : Int32) = 0 := (by decide)
        cases h
        exact fg_retz () hx hb hr hlocks (me_nz z14) ⟨rfl, ⟨hwf, hkp, z14⟩⟩ hP (hK.sub (tys' := []) [] rfl) hD hS (Nat.le_of_ble_eq_true rfl) (Nat.le_of_ble_eq_true rfl) d_M_toSigned_122
      have h := if_t c13 h
      refine lv_iconst (v := 1) hx hb d_M_toSigned_117 (by decide) ?_
      refine lv_goto (tgt := 122) hx hb d_M_toSigned_118 (by decide) ?_
      have z15 : (1 : Int32) = 1 ∨ (1 : Int32) = 0 := (by decide)
      cases h
      exact fg_retz () hx hb hr hlocks (me_nz z15) ⟨rfl, ⟨hwf, hkp, z15⟩⟩ hP (hK.sub (tys' := []) [] rfl) hD hS (Nat.le_of_ble_eq_true rfl) (Nat.le_of_ble_eq_true rfl) d_M_toSigned_122
    have h := if_t (Int64.not_le.mp (fun z => c9 ((lg_cmp_ge _ _).mpr z))) h
    refine lv_aload_n hx hb d_M_toSigned_93 rfl (lv_at hl 0 rfl) ?_
    refine g_M_57 hx hb hts hown hK hP hwf hj0 (hts _ u_1798) d_M_toSigned_94 ?_
    refine me_opt (j := j3) (kp_r hkb hkp e4) ?_
    refine lv_iload_n hx hb d_M_toSigned_97 rfl (lv_at hl 1 rfl) ?_
    refine me_lald hx hb hK hP hwf hj3 (kp_z hkb.z hkp.z g5) d_M_toSigned_98 ?_
    refine lv_goto (tgt := 108) hx hb d_M_toSigned_99 (by decide) ?_
    obtain ⟨M16, eM16, h⟩ := st_ob h
    refine me_last eM16 hx hb hK hP hD hwf hS hj3 (kp_z hkb.z hkp.z g5) d_M_toSigned_108 (fun H locs hP hD hwf hS => ?_)
    have hkp := kp_L eM16 hkp
    refine lv_aload_n hx hb d_M_toSigned_109 rfl (lv_at hl 0 rfl) ?_
    refine lv_iload_n hx hb d_M_toSigned_110 rfl (lv_at hl 1 rfl) ?_
    obtain ⟨M17, r18, eM17, h⟩ := b2_ob h
    refine me_theni0 (M1 := M17) (me_runV (C := "FilterGuardModel") (As := [.int x1]) (rest := []) ⟨hx, hb, hml, hown, hts⟩ (c_M_isEmpty l D ad ca N M16 M17 r18 j0 x1 eM17 hwf hj0 _) rfl (by show fg_nm y_M_isEmpty 1; decide +kernel) u_2157 u_2159 u_115 u_192 u_2160 ⟨Nat.le_of_ble_eq_true rfl, Nat.le_of_ble_eq_true rfl⟩ hX hz hK hP hD hwf hS hA hj0 (by decide) rfl rfl rfl hl.1 (Nat.le_of_ble_eq_true rfl) d_M_toSigned_111 ⟨Nat.le_of_ble_eq_true rfl, Nat.le_of_ble_eq_true rfl⟩) hP hD hK hS hA rfl rfl (fun H locs hw hP hD hS => ?_)
    obtain ⟨hwf, hk9, zr18⟩ := hw
    have hkp := hkp.tr hk9
    refine lv_if_ne (tgt := 121) hx hb d_M_toSigned_114 (by decide) (fun c19 => ?_) (fun c19 => ?_)
    · have h := if_f c19 h
      refine lv_iconst (v := 0) hx hb d_M_toSigned_121 (by decide) ?_
      have z20 : (0 : Int32) = 1 ∨ (0 : Int32) = 0 := (by decide)
      cases h
      exact fg_retz () hx hb hr hlocks (me_nz z20) ⟨rfl, ⟨hwf, hkp, z20⟩⟩ hP (hK.sub (tys' := []) [] rfl) hD hS (Nat.le_of_ble_eq_true rfl) (Nat.le_of_ble_eq_true rfl) d_M_toSigned_122
    have h := if_t c19 h
    refine lv_iconst (v := 1) hx hb d_M_toSigned_117 (by decide) ?_
    refine lv_goto (tgt := 122) hx hb d_M_toSigned_118 (by decide) ?_
    have z21 : (1 : Int32) = 1 ∨ (1 : Int32) = 0 := (by decide)
    cases h
    exact fg_retz () hx hb hr hlocks (me_nz z21) ⟨rfl, ⟨hwf, hkp, z21⟩⟩ hP (hK.sub (tys' := []) [] rfl) hD hS (Nat.le_of_ble_eq_true rfl) (Nat.le_of_ble_eq_true rfl) d_M_toSigned_122
  have b_32 : ∀ (M : me_M) (s0 : Int32) (s1 : Int32) (H : Heap) (locs : List Loc) (ls : Array Slot), f_M_toSigned_b32 j0 x1 M s0 s1 = (some (MZ, RZ)) → (s0 = 1 ∨ s0 = 0) → (s1 = 1 ∨ s1 = 0) → me_wf N M → me_kp M0 M → va_P D classes (me_W ad ca M) H → va_D A (me_W ad ca M) → va_S A s.heap H locs → lv_has ls 2 [(0, .ref (ad 1 j0)), (1, .int x1)] → W p l e rm_M_toSigned s m [.ref (ad 1 j0), .int x1].toArray below meth c H locs 0 0 (MQ below (q_M_toSigned D ad ca N M0 MZ RZ A) [.ref (ad 1 j0), .int x1].toArray s rm_M_toSigned.cells rm_M_toSigned.slots A) (F0 m 32 ls [.int s0, .int s1]) := by
    intro M s0 s1 H locs ls h zs0 zs1 hwf hkp hP hD hS hl
    unfold f_M_toSigned_b32 at h
    have hkb := hkp
    refine lv_icmp_ne (tgt := 109) hx hb d_M_toSigned_32 (by decide) (fun c22 => ?_) (fun c22 => ?_)
    · have h := if_f c22 h
      refine lv_aload_n hx hb d_M_toSigned_109 rfl (lv_at hl 0 rfl) ?_
      refine lv_iload_n hx hb d_M_toSigned_110 rfl (lv_at hl 1 rfl) ?_
      obtain ⟨M23, r24, eM23, h⟩ := b2_ob h
      refine me_theni0 (M1 := M23) (me_runV (C := "FilterGuardModel") (As := [.int x1]) (rest := []) ⟨hx, hb, hml, hown, hts⟩ (c_M_isEmpty l D ad ca N M M23 r24 j0 x1 eM23 hwf hj0 _) rfl (by show fg_nm y_M_isEmpty 1; decide +kernel) u_2157 u_2159 u_115 u_192 u_2160 ⟨Nat.le_of_ble_eq_true rfl, Nat.le_of_ble_eq_true rfl⟩ hX hz hK hP hD hwf hS hA hj0 (by decide) rfl rfl rfl hl.1 (Nat.le_of_ble_eq_true rfl) d_M_toSigned_111 ⟨Nat.le_of_ble_eq_true rfl, Nat.le_of_ble_eq_true rfl⟩) hP hD hK hS hA rfl rfl (fun H locs hw hP hD hS => ?_)
      obtain ⟨hwf, hk9, zr24⟩ := hw
      have hkp := hkp.tr hk9
      refine lv_if_ne (tgt := 121) hx hb d_M_toSigned_114 (by decide) (fun c25 => ?_) (fun c25 => ?_)
      · have h := if_f c25 h
        refine lv_iconst (v := 0) hx hb d_M_toSigned_121 (by decide) ?_
        have z26 : (0 : Int32) = 1 ∨ (0 : Int32) = 0 := (by decide)
        cases h
        exact fg_retz () hx hb hr hlocks (me_nz z26) ⟨rfl, ⟨hwf, hkp, z26⟩⟩ hP (hK.sub (tys' := []) [] rfl) hD hS (Nat.le_of_ble_eq_true rfl) (Nat.le_of_ble_eq_true rfl) d_M_toSigned_122
      have h := if_t c25 h
      refine lv_iconst (v := 1) hx hb d_M_toSigned_117 (by decide) ?_
      refine lv_goto (tgt := 122) hx hb d_M_toSigned_118 (by decide) ?_
      have z27 : (1 : Int32) = 1 ∨ (1 : Int32) = 0 := (by decide)
      cases h
      exact fg_retz () hx hb hr hlocks (me_nz z27) ⟨rfl, ⟨hwf, hkp, z27⟩⟩ hP (hK.sub (tys' := []) [] rfl) hD hS (Nat.le_of_ble_eq_true rfl) (Nat.le_of_ble_eq_true rfl) d_M_toSigned_122
    have h := if_t c22 h
    refine lv_aload_n hx hb d_M_toSigned_35 rfl (lv_at hl 0 rfl) ?_
    refine g_M_56 hx hb hts hown hK hP hwf hj0 (hts _ u_1797) d_M_toSigned_36 ?_
    obtain ⟨j28, e29, h⟩ := bd_ob h
    have hj28 : j28 < N 16 := (hwf.2.1 1 j0 56 _ e29 (by decide) hj0)
    refine me_opt (j := j28) e29 ?_
    refine lv_iload_n hx hb d_M_toSigned_39 rfl (lv_at hl 1 rfl) ?_
    refine lv_aload_n hx hb d_M_toSigned_40 rfl (lv_at hl 0 rfl) ?_
    refine g_M_56 hx hb hts hown hK hP hwf hj0 (hts _ u_1797) d_M_toSigned_41 ?_
    refine me_opt (j := j28) e29 ?_
    refine lv_iload_n hx hb d_M_toSigned_44 rfl (lv_at hl 1 rfl) ?_
    obtain ⟨g30, h⟩ := gd_ob h
    refine me_lald hx hb hK hP hwf hj28 g30 d_M_toSigned_45 ?_
    refine lv_aload_n hx hb d_M_toSigned_46 rfl (lv_at hl 0 rfl) ?_
    refine g_M_54 hx hb hts hown hK hP hwf hj0 (hts _ u_1795) d_M_toSigned_47 ?_
    obtain ⟨j31, e32, h⟩ := bd_ob h
    have hj31 : j31 < N 16 := (hwf.2.1 1 j0 54 _ e32 (by decide) hj0)
    refine me_opt (j := j31) e32 ?_
    refine lv_iload_n hx hb d_M_toSigned_50 rfl (lv_at hl 1 rfl) ?_
    obtain ⟨g33, h⟩ := gd_ob h
    refine me_lald hx hb hK hP hwf hj31 g33 d_M_toSigned_51 ?_
    refine W.lcmp hx hb d_M_toSigned_52 ?_
    refine lv_if_le (tgt := 65) hx hb d_M_toSigned_53 (by decide) (fun c34 => ?_) (fun c34 => ?_)
    · have h := if_f (Int64.not_lt.mpr ((lg_cmp_le _ _).mp c34)) h
      refine lv_aload_n hx hb d_M_toSigned_65 rfl (lv_at hl 0 rfl) ?_
      refine g_M_54 hx hb hts hown hK hP hwf hj0 (hts _ u_1795) d_M_toSigned_66 ?_
      refine me_opt (j := j31) e32 ?_
      refine lv_iload_n hx hb d_M_toSigned_69 rfl (lv_at hl 1 rfl) ?_
      refine me_lald hx hb hK hP hwf hj31 g33 d_M_toSigned_70 ?_
      exact b_71 M (mL M 16 j31 x1.toNatClampNeg) x1 j28 _ _ _ h hj28 hwf hkp hP hD hS (lv_sub hl [0, 1] rfl)
    have h := if_t (Int64.not_le.mp (fun z => c34 ((lg_cmp_le _ _).mpr z))) h
    refine lv_aload_n hx hb d_M_toSigned_56 rfl (lv_at hl 0 rfl) ?_
    refine g_M_56 hx hb hts hown hK hP hwf hj0 (hts _ u_1797) d_M_toSigned_57 ?_
    refine me_opt (j := j28) e29 ?_
    refine lv_iload_n hx hb d_M_toSigned_60 rfl (lv_at hl 1 rfl) ?_
    refine me_lald hx hb hK hP hwf hj28 g30 d_M_toSigned_61 ?_
    refine lv_goto (tgt := 71) hx hb d_M_toSigned_62 (by decide) ?_
    exact b_71 M (mL M 16 j28 x1.toNatClampNeg) x1 j28 _ _ _ h hj28 hwf hkp hP hD hS (lv_sub hl [0, 1] rfl)
  have b_16 : ∀ (M : me_M) (s0 : Int32) (H : Heap) (locs : List Loc) (ls : Array Slot), f_M_toSigned_b16 j0 x1 M s0 = (some (MZ, RZ)) → (s0 = 1 ∨ s0 = 0) → me_wf N M → me_kp M0 M → va_P D classes (me_W ad ca M) H → va_D A (me_W ad ca M) → va_S A s.heap H locs → lv_has ls 2 [(0, .ref (ad 1 j0)), (1, .int x1)] → W p l e rm_M_toSigned s m [.ref (ad 1 j0), .int x1].toArray below meth c H locs 0 0 (MQ below (q_M_toSigned D ad ca N M0 MZ RZ A) [.ref (ad 1 j0), .int x1].toArray s rm_M_toSigned.cells rm_M_toSigned.slots A) (F0 m 16 ls [.int s0]) := by
    intro M s0 H locs ls h zs0 hwf hkp hP hD hS hl
    unfold f_M_toSigned_b16 at h
    have hkb := hkp
    refine lv_aload_n hx hb d_M_toSigned_16 rfl (lv_at hl 0 rfl) ?_
    refine g_M_55 hx hb hts hown hK hP hwf hj0 (hts _ u_1796) d_M_toSigned_17 ?_
    obtain ⟨j35, e36, h⟩ := bd_ob h
    have hj35 : j35 < N 16 := (hwf.2.1 1 j0 55 _ e36 (by decide) hj0)
    refine me_opt (j := j35) e36 ?_
    refine lv_iload_n hx hb d_M_toSigned_20 rfl (lv_at hl 1 rfl) ?_
    obtain ⟨g37, h⟩ := gd_ob h
    refine me_lald hx hb hK hP hwf hj35 g37 d_M_toSigned_21 ?_
    refine lv_lconst (v := 0) hx hb d_M_toSigned_22 (by decide) ?_
    refine W.lcmp hx hb d_M_toSigned_23 ?_
    refine lv_if_ge (tgt := 31) hx hb d_M_toSigned_24 (by decide) (fun c38 => ?_) (fun c38 => ?_)
    · have h := if_f (Int64.not_lt.mpr ((lg_cmp_ge _ _).mp c38)) h
      refine lv_iconst (v := 0) hx hb d_M_toSigned_31 (by decide) ?_
      exact b_32 M (0 : Int32) s0 _ _ _ h (by decide) zs0 hwf hkp hP hD hS (lv_sub hl [0, 1] rfl)
    have h := if_t (Int64.not_le.mp (fun z => c38 ((lg_cmp_ge _ _).mpr z))) h
    refine lv_iconst (v := 1) hx hb d_M_toSigned_27 (by decide) ?_
    refine lv_goto (tgt := 32) hx hb d_M_toSigned_28 (by decide) ?_
    exact b_32 M (1 : Int32) s0 _ _ _ h (by decide) zs0 hwf hkp hP hD hS (lv_sub hl [0, 1] rfl)
  refine lv_aload_n hx hb d_M_toSigned_0 rfl (lv_at hl 0 rfl) ?_
  refine g_M_54 hx hb hts hown hK hP hwf hj0 (hts _ u_1795) d_M_toSigned_1 ?_
  obtain ⟨j39, e40, h⟩ := bd_ob h
  have hj39 : j39 < N 16 := (hwf.2.1 1 j0 54 _ e40 (by decide) hj0)
  refine me_opt (j := j39) e40 ?_
  refine lv_iload_n hx hb d_M_toSigned_4 rfl (lv_at hl 1 rfl) ?_
  obtain ⟨g41, h⟩ := gd_ob h
  refine me_lald hx hb hK hP hwf hj39 g41 d_M_toSigned_5 ?_
  refine lv_lconst (v := 0) hx hb d_M_toSigned_6 (by decide) ?_
  refine W.lcmp hx hb d_M_toSigned_7 ?_
  refine lv_if_ge (tgt := 15) hx hb d_M_toSigned_8 (by decide) (fun c42 => ?_) (fun c42 => ?_)
  · have h := if_f (Int64.not_lt.mpr ((lg_cmp_ge _ _).mp c42)) h
    refine lv_iconst (v := 0) hx hb d_M_toSigned_15 (by decide) ?_
    exact b_16 M0 (0 : Int32) _ _ _ h (by decide) hwf hkp hP hD hS (lv_sub hl [0, 1] rfl)
  have h := if_t (Int64.not_le.mp (fun z => c42 ((lg_cmp_ge _ _).mpr z))) h
  refine lv_iconst (v := 1) hx hb d_M_toSigned_11 (by decide) ?_
  refine lv_goto (tgt := 16) hx hb d_M_toSigned_12 (by decide) ?_
  exact b_16 M0 (1 : Int32) _ _ _ h (by decide) hwf hkp hP hD hS (lv_sub hl [0, 1] rfl)
theorem d_M_toUnsigned_32 : decode prog_14_method_15_code 32 = .ok (.if_icmp .ne 45, 3) := by decide +kernel
theorem d_M_toUnsigned_77 : decode prog_14_method_15_code 77 = .ok (.aload_n 0, 1) := by decide +kernel
theorem d_M_toUnsigned_78 : decode prog_14_method_15_code 78 = .ok (.iload_n 1, 1) := by decide +kernel
theorem d_M_toUnsigned_79 : decode prog_14_method_15_code 79 = .ok (.invokevirtual 173, 3) := by decide +kernel
theorem d_M_toUnsigned_82 : decode prog_14_method_15_code 82 = .ok (.ifCond .ne 7, 3) := by decide +kernel
theorem d_M_toUnsigned_89 : decode prog_14_method_15_code 89 = .ok (.iconst 0, 1) := by decide +kernel
theorem d_M_toUnsigned_90 : decode prog_14_method_15_code 90 = .ok (.ireturn, 1) := by decide +kernel
theorem d_M_toUnsigned_85 : decode prog_14_method_15_code 85 = .ok (.iconst 1, 1) := by decide +kernel
theorem d_M_toUnsigned_86 : decode prog_14_method_15_code 86 = .ok (.goto 4, 3) := by decide +kernel
theorem d_M_toUnsigned_35 : decode prog_14_method_15_code 35 = .ok (.aload_n 0, 1) := by decide +kernel
theorem d_M_toUnsigned_36 : decode prog_14_method_15_code 36 = .ok (.getfield 110, 3) := by decide +kernel
theorem d_M_toUnsigned_39 : decode prog_14_method_15_code 39 = .ok (.iload_n 1, 1) := by decide +kernel
theorem d_M_toUnsigned_40 : decode prog_14_method_15_code 40 = .ok (.aload_n 0, 1) := by decide +kernel
theorem d_M_toUnsigned_41 : decode prog_14_method_15_code 41 = .ok (.getfield 110, 3) := by decide +kernel
theorem d_M_toUnsigned_44 : decode prog_14_method_15_code 44 = .ok (.iload_n 1, 1) := by decide +kernel
theorem d_M_toUnsigned_45 : decode prog_14_method_15_code 45 = .ok (.laload, 1) := by decide +kernel
theorem d_M_toUnsigned_46 : decode prog_14_method_15_code 46 = .ok (.aload_n 0, 1) := by decide +kernel
theorem d_M_toUnsigned_47 : decode prog_14_method_15_code 47 = .ok (.getfield 116, 3) := by decide +kernel
theorem d_M_toUnsigned_50 : decode prog_14_method_15_code 50 = .ok (.iload_n 1, 1) := by decide +kernel
theorem d_M_toUnsigned_51 : decode prog_14_method_15_code 51 = .ok (.laload, 1) := by decide +kernel
theorem d_M_toUnsigned_52 : decode prog_14_method_15_code 52 = .ok (.invokestatic 166, 3) := by decide +kernel
theorem d_M_toUnsigned_55 : decode prog_14_method_15_code 55 = .ok (.lastore, 1) := by decide +kernel
theorem d_M_toUnsigned_56 : decode prog_14_method_15_code 56 = .ok (.aload_n 0, 1) := by decide +kernel
theorem d_M_toUnsigned_57 : decode prog_14_method_15_code 57 = .ok (.getfield 113, 3) := by decide +kernel
theorem d_M_toUnsigned_60 : decode prog_14_method_15_code 60 = .ok (.iload_n 1, 1) := by decide +kernel
theorem d_M_toUnsigned_61 : decode prog_14_method_15_code 61 = .ok (.aload_n 0, 1) := by decide +kernel
theorem d_M_toUnsigned_62 : decode prog_14_method_15_code 62 = .ok (.getfield 113, 3) := by decide +kernel
theorem d_M_toUnsigned_65 : decode prog_14_method_15_code 65 = .ok (.iload_n 1, 1) := by decide +kernel
theorem d_M_toUnsigned_66 : decode prog_14_method_15_code 66 = .ok (.laload, 1) := by decide +kernel
theorem d_M_toUnsigned_67 : decode prog_14_method_15_code 67 = .ok (.aload_n 0, 1) := by decide +kernel
theorem d_M_toUnsigned_68 : decode prog_14_method_15_code 68 = .ok (.getfield 119, 3) := by decide +kernel
theorem d_M_toUnsigned_71 : decode prog_14_method_15_code 71 = .ok (.iload_n 1, 1) := by decide +kernel
theorem d_M_toUnsigned_72 : decode prog_14_method_15_code 72 = .ok (.laload, 1) := by decide +kernel
theorem d_M_toUnsigned_73 : decode prog_14_method_15_code 73 = .ok (.invokestatic 170, 3) := by decide +kernel
theorem d_M_toUnsigned_76 : decode prog_14_method_15_code 76 = .ok (.lastore, 1) := by decide +kernel
theorem d_M_toUnsigned_16 : decode prog_14_method_15_code 16 = .ok (.aload_n 0, 1) := by decide +kernel
theorem d_M_toUnsigned_17 : decode prog_14_method_15_code 17 = .ok (.getfield 119, 3) := by decide +kernel
theorem d_M_toUnsigned_20 : decode prog_14_method_15_code 20 = .ok (.iload_n 1, 1) := by decide +kernel
theorem d_M_toUnsigned_21 : decode prog_14_method_15_code 21 = .ok (.laload, 1) := by decide +kernel
theorem d_M_toUnsigned_22 : decode prog_14_method_15_code 22 = .ok (.lconst 0, 1) := by decide +kernel
theorem d_M_toUnsigned_23 : decode prog_14_method_15_code 23 = .ok (.lcmp, 1) := by decide +kernel
theorem d_M_toUnsigned_24 : decode prog_14_method_15_code 24 = .ok (.ifCond .ge 7, 3) := by decide +kernel
theorem d_M_toUnsigned_31 : decode prog_14_method_15_code 31 = .ok (.iconst 0, 1) := by decide +kernel
theorem d_M_toUnsigned_27 : decode prog_14_method_15_code 27 = .ok (.iconst 1, 1) := by decide +kernel
theorem d_M_toUnsigned_28 : decode prog_14_method_15_code 28 = .ok (.goto 4, 3) := by decide +kernel
theorem d_M_toUnsigned_0 : decode prog_14_method_15_code 0 = .ok (.aload_n 0, 1) := by decide +kernel
theorem d_M_toUnsigned_1 : decode prog_14_method_15_code 1 = .ok (.getfield 116, 3) := by decide +kernel
theorem d_M_toUnsigned_4 : decode prog_14_method_15_code 4 = .ok (.iload_n 1, 1) := by decide +kernel
theorem d_M_toUnsigned_5 : decode prog_14_method_15_code 5 = .ok (.laload, 1) := by decide +kernel
theorem d_M_toUnsigned_6 : decode prog_14_method_15_code 6 = .ok (.lconst 0, 1) := by decide +kernel
theorem d_M_toUnsigned_7 : decode prog_14_method_15_code 7 = .ok (.lcmp, 1) := by decide +kernel
theorem d_M_toUnsigned_8 : decode prog_14_method_15_code 8 = .ok (.ifCond .ge 7, 3) := by decide +kernel
theorem d_M_toUnsigned_15 : decode prog_14_method_15_code 15 = .ok (.iconst 0, 1) := by decide +kernel
theorem d_M_toUnsigned_11 : decode prog_14_method_15_code 11 = .ok (.iconst 1, 1) := by decide +kernel
theorem d_M_toUnsigned_12 : decode prog_14_method_15_code 12 = .ok (.goto 4, 3) := by decide +kernel
abbrev y_M_toUnsigned : MethodName := ⟨"FilterGuardModel", "toUnsigned", "(I)Z"⟩
def f_M_toUnsigned_b32 (j0 : Nat) (x1 : Int32) (M : me_M) (s0 : Int32) (s1 : Int32) : Option (me_M × Int32) := (if s1 = s0 then bd (mR M 1 j0 54) (fun (j7 : Nat) => gd (¬ (x1 < 0 ∨ mZ M 16 j7 ≤ x1.toNatClampNeg)) (bd (mR M 1 j0 56) (fun (j10 : Nat) => gd (¬ (x1 < 0 ∨ mZ M 16 j10 ≤ x1.toNatClampNeg)) (bd (f_M_greater (mL M 16 j7 x1.toNatClampNeg) (mL M 16 j10 x1.toNatClampNeg)) (fun (r13 : Int64) => st (wL M 16 j7 x1.toNatClampNeg r13) (fun (M14 : me_M) => bd (mR M 1 j0 55) (fun (j15 : Nat) => gd (¬ (x1 < 0 ∨ mZ M 16 j15 ≤ x1.toNatClampNeg)) (bd (mR M 1 j0 57) (fun (j18 : Nat) => gd (¬ (x1 < 0 ∨ mZ M 16 j18 ≤ x1.toNatClampNeg)) (bd (f_M_lesser (mL M14 16 j15 x1.toNatClampNeg) (mL M14 16 j18 x1.toNatClampNeg)) (fun (r21 : Int64) => st (wL M14 16 j15 x1.toNatClampNeg r21) (fun (M22 : me_M) => b2 (f_M_isEmpty M22 j0 x1) (fun (M23 : me_M) (r24 : Int32) => (if r24 = 0 then some (M23, (1 : Int32)) else some (M23, (0 : Int32)))))))))))))))) else b2 (f_M_isEmpty M j0 x1) (fun (M2 : me_M) (r3 : Int32) => (if r3 = 0 then some (M2, (1 : Int32)) else some (M2, (0 : Int32)))))
def f_M_toUnsigned_b16 (j0 : Nat) (x1 : Int32) (M : me_M) (s0 : Int32) : Option (me_M × Int32) := bd (mR M 1 j0 57) (fun (j28 : Nat) => gd (¬ (x1 < 0 ∨ mZ M 16 j28 ≤ x1.toNatClampNeg)) ((if (mL M 16 j28 x1.toNatClampNeg) < 0 then f_M_toUnsigned_b32 j0 x1 M (1 : Int32) s0 else f_M_toUnsigned_b32 j0 x1 M (0 : Int32) s0)))
def f_M_toUnsigned (M0 : me_M) (j0 : Nat) (x1 : Int32) : Option (me_M × Int32) := bd (mR M0 1 j0 56) (fun (j32 : Nat) => gd (¬ (x1 < 0 ∨ mZ M0 16 j32 ≤ x1.toNatClampNeg)) ((if (mL M0 16 j32 x1.toNatClampNeg) < 0 then f_M_toUnsigned_b16 j0 x1 M0 (1 : Int32) else f_M_toUnsigned_b16 j0 x1 M0 (0 : Int32))))
def rm_M_toUnsigned : Room := { frames := 3, cells := 0, slots := 0, locals := 66 }
abbrev q_M_toUnsigned (D : va_G) (ad : Nat → Nat → Nat) (ca : Nat → ClassId) (N : Nat → Nat) (M0 MZ : me_M) (RZ : Int32) (A : Nat → Prop) : Array Value → Jvm.State → Outcome → Jvm.State → Prop := va_Qi (fun r (_ : Unit) => r = RZ ∧ me_wf N MZ ∧ me_kp M0 MZ ∧ (RZ = 1 ∨ RZ = 0)) (fg_B D A (fun _ => me_W ad ca MZ) (fun _ => [])) A
set_option maxHeartbeats 4000000 in
set_option maxRecDepth 100000 in
theorem c_M_toUnsigned (l : Launch) (D : va_G) (ad : Nat → Nat → Nat) (ca : Nat → ClassId) (N : Nat → Nat) (M0 MZ : me_M) (RZ : Int32) (j0 : Nat) (x1 : Int32) (h : f_M_toUnsigned M0 j0 x1 = (some (MZ, RZ))) (hwf : me_wf N M0) (hj0 : j0 < N 1) (sz : Nat) : Met l y_M_toUnsigned (fg_w y_M_toUnsigned prog_14_method_15_code 2 (some .boolean)) rm_M_toUnsigned (va_Pc [.ref (ad 1 j0), .int x1] (fz_P D (me_T ca) (me_W ad ca M0) sz)) (q_M_toUnsigned D ad ca N M0 MZ RZ (va_A (me_W ad ca M0) sz)) rm_M_toUnsigned.cells rm_M_toUnsigned.slots (va_A (me_W ad ca M0) sz) := by
  refine fz_enter (fun A => q_M_toUnsigned D ad ca N M0 MZ RZ A) (by decide +kernel) (Nat.le_of_ble_eq_true rfl) ?_
  intro p e s m below meth c ls A hx hb hml hown hts hr hlocks hin hP hK hD hS hA hX hl hz
  have hl : lv_has ls 2 [(0, .ref (ad 1 j0)), (1, .int x1)] := hl
  unfold f_M_toUnsigned at h
  have hkp : me_kp M0 M0 := me_kp.rf
  have hkb := hkp
  have b_32 : ∀ (M : me_M) (s0 : Int32) (s1 : Int32) (H : Heap) (locs : List Loc) (ls : Array Slot), f_M_toUnsigned_b32 j0 x1 M s0 s1 = (some (MZ, RZ)) → (s0 = 1 ∨ s0 = 0) → (s1 = 1 ∨ s1 = 0) → me_wf N M → me_kp M0 M → va_P D classes (me_W ad ca M) H → va_D A (me_W ad ca M) → va_S A s.heap H locs → lv_has ls 2 [(0, .ref (ad 1 j0)), (1, .int x1)] → W p l e rm_M_toUnsigned s m [.ref (ad 1 j0), .int x1].toArray below meth c H locs 0 0 (MQ below (q_M_toUnsigned D ad ca N M0 MZ RZ A) [.ref (ad 1 j0), .int x1].toArray s rm_M_toUnsigned.cells rm_M_toUnsigned.slots A) (F0 m 32 ls [.int s0, .int s1]) := by
    intro M s0 s1 H locs ls h zs0 zs1 hwf hkp hP hD hS hl
    unfold f_M_toUnsigned_b32 at h
    have hkb := hkp
    refine lv_icmp_ne (tgt := 77) hx hb d_M_toUnsigned_32 (by decide) (fun c1 => ?_) (fun c1 => ?_)
    · have h := if_f c1 h
      refine lv_aload_n hx hb d_M_toUnsigned_77 rfl (lv_at hl 0 rfl) ?_
      refine lv_iload_n hx hb d_M_toUnsigned_78 rfl (lv_at hl 1 rfl) ?_
      obtain ⟨M2, r3, eM2, h⟩ := b2_ob h
      refine me_theni0 (M1 := M2) (me_runV (C := "FilterGuardModel") (As := [.int x1]) (rest := []) ⟨hx, hb, hml, hown, hts⟩ (c_M_isEmpty l D ad ca N M M2 r3 j0 x1 eM2 hwf hj0 _) rfl (by show fg_nm y_M_isEmpty 1; decide +kernel) u_2157 u_2159 u_115 u_192 u_2160 ⟨Nat.le_of_ble_eq_true rfl, Nat.le_of_ble_eq_true rfl⟩ hX hz hK hP hD hwf hS hA hj0 (by decide) rfl rfl rfl hl.1 (Nat.le_of_ble_eq_true rfl) d_M_toUnsigned_79 ⟨Nat.le_of_ble_eq_true rfl, Nat.le_of_ble_eq_true rfl⟩) hP hD hK hS hA rfl rfl (fun H locs hw hP hD hS => ?_)
      obtain ⟨hwf, hk9, zr3⟩ := hw
      have hkp := hkp.tr hk9
      refine lv_if_ne (tgt := 89) hx hb d_M_toUnsigned_82 (by decide) (fun c4 => ?_) (fun c4 => ?_)
      · have h := if_f c4 h
        refine lv_iconst (v := 0) hx hb d_M_toUnsigned_89 (by decide) ?_
        have z5 : (0 : Int32) = 1 ∨ (0 : Int32) = 0 := (by decide)
        cases h
        exact fg_retz () hx hb hr hlocks (me_nz z5) ⟨rfl, ⟨hwf, hkp, z5⟩⟩ hP (hK.sub (tys' := []) [] rfl) hD hS (Nat.le_of_ble_eq_true rfl) (Nat.le_of_ble_eq_true rfl) d_M_toUnsigned_90
      have h := if_t c4 h
      refine lv_iconst (v := 1) hx hb d_M_toUnsigned_85 (by decide) ?_
      refine lv_goto (tgt := 90) hx hb d_M_toUnsigned_86 (by decide) ?_
      have z6 : (1 : Int32) = 1 ∨ (1 : Int32) = 0 := (by decide)
      cases h
      exact fg_retz () hx hb hr hlocks (me_nz z6) ⟨rfl, ⟨hwf, hkp, z6⟩⟩ hP (hK.sub (tys' := []) [] rfl) hD hS (Nat.le_of_ble_eq_true rfl) (Nat.le_of_ble_eq_true rfl) d_M_toUnsigned_90
    have h := if_t c1 h
    refine lv_aload_n hx hb d_M_toUnsigned_35 rfl (lv_at hl 0 rfl) ?_
    refine g_M_54 hx hb hts hown hK hP hwf hj0 (hts _ u_1795) d_M_toUnsigned_36 ?_
    obtain ⟨j7, e8, h⟩ := bd_ob h
    have hj7 : j7 < N 16 := (hwf.2.1 1 j0 54 _ e8 (by decide) hj0)
    refine me_opt (j := j7) e8 ?_
    refine lv_iload_n hx hb d_M_toUnsigned_39 rfl (lv_at hl 1 rfl) ?_
    refine lv_aload_n hx hb d_M_toUnsigned_40 rfl (lv_at hl 0 rfl) ?_
    refine g_M_54 hx hb hts hown hK hP hwf hj0 (hts _ u_1795) d_M_toUnsigned_41 ?_
    refine me_opt (j := j7) e8 ?_
    refine lv_iload_n hx hb d_M_toUnsigned_44 rfl (lv_at hl 1 rfl) ?_
    obtain ⟨g9, h⟩ := gd_ob h
    refine me_lald hx hb hK hP hwf hj7 g9 d_M_toUnsigned_45 ?_
    refine lv_aload_n hx hb d_M_toUnsigned_46 rfl (lv_at hl 0 rfl) ?_
    refine g_M_56 hx hb hts hown hK hP hwf hj0 (hts _ u_1797) d_M_toUnsigned_47 ?_
    obtain ⟨j10, e11, h⟩ := bd_ob h
    have hj10 : j10 < N 16 := (hwf.2.1 1 j0 56 _ e11 (by decide) hj0)
    refine me_opt (j := j10) e11 ?_
    refine lv_iload_n hx hb d_M_toUnsigned_50 rfl (lv_at hl 1 rfl) ?_
    obtain ⟨g12, h⟩ := gd_ob h
    refine me_lald hx hb hK hP hwf hj10 g12 d_M_toUnsigned_51 ?_
    obtain ⟨r13, er13, h⟩ := bd_ob h
    refine me_panl' (r0 := r13) (fg_runS (wc := []) (tc := []) (A2 := A) (As := [.long (mL M 16 j7 x1.toNatClampNeg), .long (mL M 16 j10 x1.toNatClampNeg)]) (rest := [.int x1, .ref (ad 16 j7)]) ⟨hx, hb, hml, hown, hts⟩ (c_M_greater l D r13 (mL M 16 j7 x1.toNatClampNeg) (mL M 16 j10 x1.toNatClampNeg) er13 _) (by show fg_nm y_M_greater 2; decide +kernel) u_2151 u_2152 u_192 u_2153 ⟨Nat.le_of_ble_eq_true rfl, Nat.le_of_ble_eq_true rfl⟩ hX me_P0 (hK.sub (tys' := []) [] rfl) me_D0 rfl hl.1 (Nat.le_of_ble_eq_true rfl) d_M_toUnsigned_52 ⟨Nat.le_of_ble_eq_true rfl, Nat.le_of_ble_eq_true rfl⟩) hP hD hK hS hA rfl rfl (fun H locs hw hP hD hS => ?_)
    obtain ⟨M14, eM14, h⟩ := st_ob h
    refine me_last eM14 hx hb hK hP hD hwf hS hj7 g9 d_M_toUnsigned_55 (fun H locs hP hD hwf hS => ?_)
    have hkp := kp_L eM14 hkp
    refine lv_aload_n hx hb d_M_toUnsigned_56 rfl (lv_at hl 0 rfl) ?_
    refine g_M_55 hx hb hts hown hK hP hwf hj0 (hts _ u_1796) d_M_toUnsigned_57 ?_
    obtain ⟨j15, e16, h⟩ := bd_ob h
    have hj15 : j15 < N 16 := (hwf.2.1 1 j0 55 _ (kp_r hkb hkp e16) (by decide) hj0)
    refine me_opt (j := j15) (kp_r hkb hkp e16) ?_
    refine lv_iload_n hx hb d_M_toUnsigned_60 rfl (lv_at hl 1 rfl) ?_
    refine lv_aload_n hx hb d_M_toUnsigned_61 rfl (lv_at hl 0 rfl) ?_
    refine g_M_55 hx hb hts hown hK hP hwf hj0 (hts _ u_1796) d_M_toUnsigned_62 ?_
    refine me_opt (j := j15) (kp_r hkb hkp e16) ?_
    refine lv_iload_n hx hb d_M_toUnsigned_65 rfl (lv_at hl 1 rfl) ?_
    obtain ⟨g17, h⟩ := gd_ob h
    refine me_lald hx hb hK hP hwf hj15 (kp_z hkb.z hkp.z g17) d_M_toUnsigned_66 ?_
    refine lv_aload_n hx hb d_M_toUnsigned_67 rfl (lv_at hl 0 rfl) ?_
    refine g_M_57 hx hb hts hown hK hP hwf hj0 (hts _ u_1798) d_M_toUnsigned_68 ?_
    obtain ⟨j18, e19, h⟩ := bd_ob h
    have hj18 : j18 < N 16 := (hwf.2.1 1 j0 57 _ (kp_r hkb hkp e19) (by decide) hj0)
    refine me_opt (j := j18) (kp_r hkb hkp e19) ?_
    refine lv_iload_n hx hb d_M_toUnsigned_71 rfl (lv_at hl 1 rfl) ?_
    obtain ⟨g20, h⟩ := gd_ob h
    refine me_lald hx hb hK hP hwf hj18 (kp_z hkb.z hkp.z g20) d_M_toUnsigned_72 ?_
    obtain ⟨r21, er21, h⟩ := bd_ob h
    refine me_panl' (r0 := r21) (fg_runS (wc := []) (tc := []) (A2 := A) (As := [.long (mL M14 16 j15 x1.toNatClampNeg), .long (mL M14 16 j18 x1.toNatClampNeg)]) (rest := [.int x1, .ref (ad 16 j15)]) ⟨hx, hb, hml, hown, hts⟩ (c_M_lesser l D r21 (mL M14 16 j15 x1.toNatClampNeg) (mL M14 16 j18 x1.toNatClampNeg) er21 _) (by show fg_nm y_M_lesser 2; decide +kernel) u_2154 u_2155 u_192 u_2156 ⟨Nat.le_of_ble_eq_true rfl, Nat.le_of_ble_eq_true rfl⟩ hX me_P0 (hK.sub (tys' := []) [] rfl) me_D0 rfl hl.1 (Nat.le_of_ble_eq_true rfl) d_M_toUnsigned_73 ⟨Nat.le_of_ble_eq_true rfl, Nat.le_of_ble_eq_true rfl⟩) hP hD hK hS hA rfl rfl (fun H locs hw hP hD hS => ?_)
    obtain ⟨M22, eM22, h⟩ := st_ob h
    refine me_last eM22 hx hb hK hP hD hwf hS hj15 (kp_z hkb.z hkp.z g17) d_M_toUnsigned_76 (fun H locs hP hD hwf hS => ?_)
    have hkp := kp_L eM22 hkp
    refine lv_aload_n hx hb d_M_toUnsigned_77 rfl (lv_at hl 0 rfl) ?_
    refine lv_iload_n hx hb d_M_toUnsigned_78 rfl (lv_at hl 1 rfl) ?_
    obtain ⟨M23, r24, eM23, h⟩ := b2_ob h
    refine me_theni0 (M1 := M23) (me_runV (C := "FilterGuardModel") (As := [.int x1]) (rest := []) ⟨hx, hb, hml, hown, hts⟩ (c_M_isEmpty l D ad ca N M22 M23 r24 j0 x1 eM23 hwf hj0 _) rfl (by show fg_nm y_M_isEmpty 1; decide +kernel) u_2157 u_2159 u_115 u_192 u_2160 ⟨Nat.le_of_ble_eq_true rfl, Nat.le_of_ble_eq_true rfl⟩ hX hz hK hP hD hwf hS hA hj0 (by decide) rfl rfl rfl hl.1 (Nat.le_of_ble_eq_true rfl) d_M_toUnsigned_79 ⟨Nat.le_of_ble_eq_true rfl, Nat.le_of_ble_eq_true rfl⟩) hP hD hK hS hA rfl rfl (fun H locs hw hP hD hS => ?_)
    obtain ⟨hwf, hk9, zr24⟩ := hw
    have hkp := hkp.tr hk9
    refine lv_if_ne (tgt := 89) hx hb d_M_toUnsigned_82 (by decide) (fun c25 => ?_) (fun c25 => ?_)
    · have h := if_f c25 h
      refine lv_iconst (v := 0) hx hb d_M_toUnsigned_89 (by decide) ?_
      have z26 : (0 : Int32) = 1 ∨ (0 : Int32) = 0 := (by decide)
      cases h
      exact fg_retz () hx hb hr hlocks (me_nz z26) ⟨rfl, ⟨hwf, hkp, z26⟩⟩ hP (hK.sub (tys' := []) [] rfl) hD hS (Nat.le_of_ble_eq_true rfl) (Nat.le_of_ble_eq_true rfl) d_M_toUnsigned_90
    have h := if_t c25 h
    refine lv_iconst (v := 1) hx hb d_M_toUnsigned_85 (by decide) ?_
    refine lv_goto (tgt := 90) hx hb d_M_toUnsigned_86 (by decide) ?_
    have z27 : (1 : Int32) = 1 ∨ (1 : Int32) = 0 := (by decide)
    cases h
    exact fg_retz () hx hb hr hlocks (me_nz z27) ⟨rfl, ⟨hwf, hkp, z27⟩⟩ hP (hK.sub (tys' := []) [] rfl) hD hS (Nat.le_of_ble_eq_true rfl) (Nat.le_of_ble_eq_true rfl) d_M_toUnsigned_90
  have b_16 : ∀ (M : me_M) (s0 : Int32) (H : Heap) (locs : List Loc) (ls : Array Slot), f_M_toUnsigned_b16 j0 x1 M s0 = (some (MZ, RZ)) → (s0 = 1 ∨ s0 = 0) → me_wf N M → me_kp M0 M → va_P D classes (me_W ad ca M) H → va_D A (me_W ad ca M) → va_S A s.heap H locs → lv_has ls 2 [(0, .ref (ad 1 j0)), (1, .int x1)] → W p l e rm_M_toUnsigned s m [.ref (ad 1 j0), .int x1].toArray below meth c H locs 0 0 (MQ below (q_M_toUnsigned D ad ca N M0 MZ RZ A) [.ref (ad 1 j0), .int x1].toArray s rm_M_toUnsigned.cells rm_M_toUnsigned.slots A) (F0 m 16 ls [.int s0]) := by
    intro M s0 H locs ls h zs0 hwf hkp hP hD hS hl
    unfold f_M_toUnsigned_b16 at h
    have hkb := hkp
    refine lv_aload_n hx hb d_M_toUnsigned_16 rfl (lv_at hl 0 rfl) ?_
    refine g_M_57 hx hb hts hown hK hP hwf hj0 (hts _ u_1798) d_M_toUnsigned_17 ?_
    obtain ⟨j28, e29, h⟩ := bd_ob h
    have hj28 : j28 < N 16 := (hwf.2.1 1 j0 57 _ e29 (by decide) hj0)
    refine me_opt (j := j28) e29 ?_
    refine lv_iload_n hx hb d_M_toUnsigned_20 rfl (lv_at hl 1 rfl) ?_
    obtain ⟨g30, h⟩ := gd_ob h
    refine me_lald hx hb hK hP hwf hj28 g30 d_M_toUnsigned_21 ?_
    refine lv_lconst (v := 0) hx hb d_M_toUnsigned_22 (by decide) ?_
    refine W.lcmp hx hb d_M_toUnsigned_23 ?_
    refine lv_if_ge (tgt := 31) hx hb d_M_toUnsigned_24 (by decide) (fun c31 => ?_) (fun c31 => ?_)
    · have h := if_f (Int64.not_lt.mpr ((lg_cmp_ge _ _).mp c31)) h
      refine lv_iconst (v := 0) hx hb d_M_toUnsigned_31 (by decide) ?_
      exact b_32 M (0 : Int32) s0 _ _ _ h (by decide) zs0 hwf hkp hP hD hS (lv_sub hl [0, 1] rfl)
    have h := if_t (Int64.not_le.mp (fun z => c31 ((lg_cmp_ge _ _).mpr z))) h
    refine lv_iconst (v := 1) hx hb d_M_toUnsigned_27 (by decide) ?_
    refine lv_goto (tgt := 32) hx hb d_M_toUnsigned_28 (by decide) ?_
    exact b_32 M (1 : Int32) s0 _ _ _ h (by decide) zs0 hwf hkp hP hD hS (lv_sub hl [0, 1] rfl)
  refine lv_aload_n hx hb d_M_toUnsigned_0 rfl (lv_at hl 0 rfl) ?_
  refine g_M_56 hx hb hts hown hK hP hwf hj0 (hts _ u_1797) d_M_toUnsigned_1 ?_
  obtain ⟨j32, e33, h⟩ := bd_ob h
  have hj32 : j32 < N 16 := (hwf.2.1 1 j0 56 _ e33 (by decide) hj0)
  refine me_opt (j := j32) e33 ?_
  refine lv_iload_n hx hb d_M_toUnsigned_4 rfl (lv_at hl 1 rfl) ?_
  obtain ⟨g34, h⟩ := gd_ob h
  refine me_lald hx hb hK hP hwf hj32 g34 d_M_toUnsigned_5 ?_
  refine lv_lconst (v := 0) hx hb d_M_toUnsigned_6 (by decide) ?_
  refine W.lcmp hx hb d_M_toUnsigned_7 ?_
  refine lv_if_ge (tgt := 15) hx hb d_M_toUnsigned_8 (by decide) (fun c35 => ?_) (fun c35 => ?_)
  · have h := if_f (Int64.not_lt.mpr ((lg_cmp_ge _ _).mp c35)) h
    refine lv_iconst (v := 0) hx hb d_M_toUnsigned_15 (by decide) ?_
    exact b_16 M0 (0 : Int32) _ _ _ h (by decide) hwf hkp hP hD hS (lv_sub hl [0, 1] rfl)
  have h := if_t (Int64.not_le.mp (fun z => c35 ((lg_cmp_ge _ _).mpr z))) h
  refine lv_iconst (v := 1) hx hb d_M_toUnsigned_11 (by decide) ?_
  refine lv_goto (tgt := 16) hx hb d_M_toUnsigned_12 (by decide) ?_
  exact b_16 M0 (1 : Int32) _ _ _ h (by decide) hwf hkp hP hD hS (lv_sub hl [0, 1] rfl)
