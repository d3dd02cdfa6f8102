abbrev y_State_init : MethodName := ⟨"FilterGuard$State", "<init>", "()V"⟩
theorem d_State_init_0 : decode prog_10_method_1_code 0 = .ok (.aload_n 0, 1) := by decide +kernel
theorem d_State_init_1 : decode prog_10_method_1_code 1 = .ok (.invokespecial 3, 3) := by decide +kernel
theorem u_519 : Cond.methodLink "FilterGuard$State" 3 ⟨"java/lang/Object", "<init>", "()V"⟩ ∈ fg_g := fg_in (List.mem_of_getElem? (i := 519) (by decide +kernel)) rfl
theorem d_State_init_4 : decode prog_10_method_1_code 4 = .ok (.aload_n 0, 1) := by decide +kernel
theorem d_State_init_5 : decode prog_10_method_1_code 5 = .ok (.bipush 75, 2) := by decide +kernel
theorem d_State_init_7 : decode prog_10_method_1_code 7 = .ok (.anewarray 9, 3) := by decide +kernel
theorem u_520 : Cond.classLink "FilterGuard$State" 9 "FilterGuard$Cell" ∈ fg_g := fg_in (List.mem_of_getElem? (i := 520) (by decide +kernel)) rfl
theorem o_521 : Cond.arrayOver (.object "FilterGuard$Cell") ∈ lw_tbl := List.mem_of_getElem? (i := 521) (by decide +kernel)
theorem d_State_init_10 : decode prog_10_method_1_code 10 = .ok (.putfield 11, 3) := by decide +kernel
theorem u_523 : Cond.fieldLink "FilterGuard$State" 11 "FilterGuard$State" "cells" "[LFilterGuard$Cell;" ∈ fg_g := fg_in (List.mem_of_getElem? (i := 523) (by decide +kernel)) rfl
theorem d_State_init_13 : decode prog_10_method_1_code 13 = .ok (.aload_n 0, 1) := by decide +kernel
theorem d_State_init_14 : decode prog_10_method_1_code 14 = .ok (.bipush 11, 2) := by decide +kernel
theorem d_State_init_16 : decode prog_10_method_1_code 16 = .ok (.putfield 17, 3) := by decide +kernel
theorem u_527 : Cond.fieldLink "FilterGuard$State" 17 "FilterGuard$State" "used" "I" ∈ fg_g := fg_in (List.mem_of_getElem? (i := 527) (by decide +kernel)) rfl
theorem d_State_init_19 : decode prog_10_method_1_code 19 = .ok (.iconst 0, 1) := by decide +kernel
theorem d_State_init_20 : decode prog_10_method_1_code 20 = .ok (.istore_n 1, 1) := by decide +kernel
theorem d_State_init_21 : decode prog_10_method_1_code 21 = .ok (.iload_n 1, 1) := by decide +kernel
theorem d_State_init_22 : decode prog_10_method_1_code 22 = .ok (.bipush 75, 2) := by decide +kernel
theorem d_State_init_24 : decode prog_10_method_1_code 24 = .ok (.if_icmp .ge 22, 3) := by decide +kernel
theorem d_State_init_46 : decode prog_10_method_1_code 46 = .ok (.return_, 1) := by decide +kernel
theorem d_State_init_27 : decode prog_10_method_1_code 27 = .ok (.aload_n 0, 1) := by decide +kernel
theorem d_State_init_28 : decode prog_10_method_1_code 28 = .ok (.getfield 11, 3) := by decide +kernel
theorem d_State_init_31 : decode prog_10_method_1_code 31 = .ok (.iload_n 1, 1) := by decide +kernel
theorem d_State_init_32 : decode prog_10_method_1_code 32 = .ok (.new 9, 3) := by decide +kernel
theorem u_413 : Cond.instantiable "FilterGuard$Cell" 7 ∈ fg_g := fg_in (List.mem_of_getElem? (i := 413) (by decide +kernel)) rfl
theorem u_188 : Cond.initialized "FilterGuard$Cell" ∈ fg_g := fg_in (List.mem_of_getElem? (i := 188) (by decide +kernel)) rfl
theorem d_State_init_35 : decode prog_10_method_1_code 35 = .ok (.dup, 1) := by decide +kernel
theorem d_State_init_36 : decode prog_10_method_1_code 36 = .ok (.invokespecial 21, 3) := by decide +kernel
theorem o_522 : Cond.methodLinkNest "FilterGuard$State" 21 ⟨"FilterGuard$Cell", "<init>", "()V"⟩ "FilterGuard" ∈ lw_tbl := List.mem_of_getElem? (i := 522) (by decide +kernel)
theorem u_416 : Cond.code ⟨"FilterGuard$Cell", "<init>", "()V"⟩ prog_2_method_1_code 1 none ∈ fg_g := fg_in (List.mem_of_getElem? (i := 416) (by decide +kernel)) rfl
theorem u_415 : Cond.instanceMethod ⟨"FilterGuard$Cell", "<init>", "()V"⟩ ∈ fg_g := fg_in (List.mem_of_getElem? (i := 415) (by decide +kernel)) rfl
theorem d_State_init_39 : decode prog_10_method_1_code 39 = .ok (.aastore, 1) := by decide +kernel
theorem d_State_init_40 : decode prog_10_method_1_code 40 = .ok (.iinc 1 1, 3) := by decide +kernel
theorem d_State_init_43 : decode prog_10_method_1_code 43 = .ok (.goto (-22), 3) := by decide +kernel
def rm_State_init : Room := { frames := 3, cells := 151, slots := 1050, locals := 84 }
abbrev q_State_init (D : va_G) (h0 : Nat) (A : Nat → Prop) : Array Value → Jvm.State → Outcome → Jvm.State → Prop := va_Qv (fun (u : Nat × ClassId × (Nat → Option Nat)) => True) (fg_B D A (fun (u : Nat × ClassId × (Nat → Option Nat)) => [(h0, .inr (9, [.ref u.1, .int 11, .int 0, .int 0, .int 0])), (u.1, .inl (u.2.1, 75, .inr (.inr (.inr (.inr u.2.2)))))]) (fun (u : Nat × ClassId × (Nat → Option Nat)) => [(u.2.1, (.object "FilterGuard$Cell"))])) A
set_option maxHeartbeats 4000000 in
set_option maxRecDepth 100000 in
theorem c_State_init (l : Launch) (D : va_G) (h0 : Nat) (sz : Nat) : Met l y_State_init (fg_w y_State_init prog_10_method_1_code 2 none) rm_State_init (va_Pc [.ref h0] (fg_P D [] [(h0, .inr (9, [.null, .int 0, .int 0, .int 0, .int 0]))] sz)) (q_State_init D h0 (va_A [(h0, .inr (9, [.null, .int 0, .int 0, .int 0, .int 0]))] sz)) rm_State_init.cells rm_State_init.slots (va_A [(h0, .inr (9, [.null, .int 0, .int 0, .int 0, .int 0]))] sz) := by
  refine fg_enter (fun A => q_State_init D h0 A) (by decide +kernel) (Nat.le_of_ble_eq_true rfl) ?_
  intro p e s m below meth c ls A hx hb hml hown hts hr hlocks hin hP hK hD hS hA hX hl
  have hl : lv_has ls 2 [(0, .ref h0)] := hl
  refine lv_aload_n hx hb d_State_init_0 rfl (lv_at hl 0 rfl) ?_
  refine W.objInit hx hb hown (hts _ u_519) (hts _ u_210) (hts _ u_211) rfl (by rw [hml]; exact hl.1) rfl d_State_init_1 (Nat.le_of_ble_eq_true rfl) (Nat.le_of_ble_eq_true rfl) ?_
  refine W.eq (g2 := F0 m 4 ls []) rfl ?_
  refine lv_aload_n hx hb d_State_init_4 rfl (lv_at hl 0 rfl) ?_
  refine lv_bipush (v := 75) hx hb d_State_init_5 (by decide) ?_
  refine va_newq (C := "FilterGuard$Cell") (N' := 75) hx hb hown (hts _ u_520) (hX _ o_521 rfl) hK hP hD hS hA (by decide) (by decide) (by decide) (Nat.le_of_ble_eq_true rfl) (Nat.le_of_ble_eq_true rfl) d_State_init_7 (fun q7_0 k7_0 H hK hP hD hS => ?_)
  have hP : va_P D classes [(h0, .inr (9, [.null, .int 0, .int 0, .int 0, .int 0])), (q7_0, .inl (k7_0, 75, .inr (.inr (.inr (.inr (fun _ => none))))))] H := hP
  have hD : va_D A [(h0, .inr (9, [.null, .int 0, .int 0, .int 0, .int 0])), (q7_0, .inl (k7_0, 75, .inr (.inr (.inr (.inr (fun _ => none))))))] := hD
  have hK : va_K D classes [(k7_0, (.object "FilterGuard$Cell"))] s := hK
  refine W.widen (k := 1) (n := 75) (Nat.le_of_ble_eq_true rfl) (Nat.le_of_ble_eq_true rfl) ?_
  refine va_putF (D := D) (ci := 9) (v := .ref q7_0) (ty := (.array (.object "FilterGuard$Cell"))) (C := "FilterGuard$State") (T := F_State) (N := 5) hx hb hts i_State t_State t_State_ok n_State hown hK hP hD hS 0 rfl rfl 0 (by decide) (hts _ u_523) (fun _ h9 => h9) rfl hin rfl (by decide +kernel) rfl rfl (Nat.le_of_ble_eq_true rfl) d_State_init_10 (fun H locs hP hD hS => ?_)
  have hP : va_P D classes [(h0, .inr (9, [.ref q7_0, .int 0, .int 0, .int 0, .int 0])), (q7_0, .inl (k7_0, 75, .inr (.inr (.inr (.inr (fun _ => none))))))] H := hP
  have hD : va_D A [(h0, .inr (9, [.ref q7_0, .int 0, .int 0, .int 0, .int 0])), (q7_0, .inl (k7_0, 75, .inr (.inr (.inr (.inr (fun _ => none))))))] := hD
  refine lv_aload_n hx hb d_State_init_13 rfl (lv_at hl 0 rfl) ?_
  refine lv_bipush (v := 11) hx hb d_State_init_14 (by decide) ?_
  refine va_put (D := D) (ci := 9) (v := .int 11) (ty := .int) (C := "FilterGuard$State") (T := F_State) (N := 5) hx hb hts i_State t_State t_State_ok n_State hown hK hP hD hS 0 rfl rfl 1 (by decide) (hts _ u_527) (fun _ h9 => h9) rfl (by decide +kernel) rfl rfl (Nat.le_of_ble_eq_true rfl) d_State_init_16 (fun H locs hP hD hS => ?_)
  have hP : va_P D classes [(h0, .inr (9, [.ref q7_0, .int 11, .int 0, .int 0, .int 0])), (q7_0, .inl (k7_0, 75, .inr (.inr (.inr (.inr (fun _ => none))))))] H := hP
  have hD : va_D A [(h0, .inr (9, [.ref q7_0, .int 11, .int 0, .int 0, .int 0])), (q7_0, .inl (k7_0, 75, .inr (.inr (.inr (.inr (fun _ => none))))))] := hD
  refine lv_iconst (v := 0) hx hb d_State_init_19 (by decide) ?_
  refine lv_istore_n (lv' := [(1, .int 0), (0, .ref h0)]) hx hb d_State_init_20 rfl hl (by decide) rfl (fun ls hl => ?_)
  have loop21 : ∀ (n : Nat) (k : Nat) (f : Nat → Option Nat) (H : Heap) (locs : List Loc) (ls : Array Slot), k ≤ 75 → 75 - k < n → va_P D classes [(h0, .inr (9, [.ref q7_0, .int 11, .int 0, .int 0, .int 0])), (q7_0, .inl (k7_0, 75, .inr (.inr (.inr (.inr f)))))] H → va_D A [(h0, .inr (9, [.ref q7_0, .int 11, .int 0, .int 0, .int 0])), (q7_0, .inl (k7_0, 75, .inr (.inr (.inr (.inr f)))))] → va_S A s.heap H locs → lv_has ls 2 [(1, .int (nI k)), (0, .ref h0)] → W p l e rm_State_init s m [.ref h0].toArray below meth c H locs (1 + 2 * k) (75 + 13 * k) (MQ below (q_State_init D h0 A) [.ref h0].toArray s rm_State_init.cells rm_State_init.slots A) (F0 m 21 ls []) := by
    intro n
    induction n with
    | zero => intro k f H locs ls hk hn; exact absurd hn (Nat.not_lt_zero _)
    | succ n ih =>
      intro k f H locs ls hk hn hP hD hS hl
      refine lv_iload_n hx hb d_State_init_21 rfl (lv_at hl 0 rfl) ?_
      refine lv_bipush (v := 75) hx hb d_State_init_22 (by decide) ?_
      refine lv_icmp_ge (tgt := 46) hx hb d_State_init_24 (by decide) (fun c_2 => ?_) (fun c_2 => ?_)
      · exact fg_retv (q7_0, k7_0, f) hx hb hr hlocks trivial (hP.sub (ws' := [(h0, .inr (9, [.ref q7_0, .int 11, .int 0, .int 0, .int 0])), (q7_0, .inl (k7_0, 75, .inr (.inr (.inr (.inr f)))))]) [0, 1] rfl) (hK.sub (tys' := [(k7_0, (.object "FilterGuard$Cell"))]) [0] rfl) (hD.sub (ws' := [(h0, .inr (9, [.ref q7_0, .int 11, .int 0, .int 0, .int 0])), (q7_0, .inl (k7_0, 75, .inr (.inr (.inr (.inr f)))))]) [0, 1] (by decide) rfl) hS (by show _ ≤ 151; omega) (by show _ ≤ 1050; omega) d_State_init_46
      · have hlt : k < 75 := fg_lt (x := 75) rfl (by decide) hk c_2
        refine lv_aload_n hx hb d_State_init_27 rfl (lv_at hl 1 rfl) ?_
        refine va_get (D := D) (ci := 9) (v := .ref q7_0) (C := "FilterGuard$State") (T := F_State) (N := 5) hx hb hts i_State hown hK hP 0 rfl rfl 0 (by decide) (hts _ u_523) (fun _ h9 => h9) rfl d_State_init_28 ?_
        refine lv_iload_n hx hb d_State_init_31 rfl (lv_at hl 0 rfl) ?_
        refine va_new (ci := 10) (fs := [.int 0, .int 0, .int 0, .int 0, .int 0, .int 0, .null]) (C := "FilterGuard$Cell") (T := F_Cell) (N := 7) hx hb hts i_Cell t_Cell t_Cell_ok hown (hts _ u_520) (hts _ u_413) (hts _ u_188) hK hP hD hS hA rfl z_Cell (by show _ ≤ 151; omega) (by show _ ≤ 1050; omega) d_State_init_32 (fun q32_2 H hP hD hS => ?_)
        have hP : va_P D classes [(h0, .inr (9, [.ref q7_0, .int 11, .int 0, .int 0, .int 0])), (q7_0, .inl (k7_0, 75, .inr (.inr (.inr (.inr f))))), (q32_2, .inr (10, [.int 0, .int 0, .int 0, .int 0, .int 0, .int 0, .null]))] H := hP
        have hD : va_D A [(h0, .inr (9, [.ref q7_0, .int 11, .int 0, .int 0, .int 0])), (q7_0, .inl (k7_0, 75, .inr (.inr (.inr (.inr f))))), (q32_2, .inr (10, [.int 0, .int 0, .int 0, .int 0, .int 0, .int 0, .null]))] := hD
        refine W.widen (k := 1 + 2 * k + 1) (n := 75 + 13 * k + 7) (by omega) (by omega) ?_
        refine lv_dup hx hb d_State_init_35 rfl ?_
        refine fg_thenv (wr := [(h0, .inr (9, [.ref q7_0, .int 11, .int 0, .int 0, .int 0])), (q7_0, .inl (k7_0, 75, .inr (.inr (.inr (.inr f)))))]) (fg_runIN (As := []) (rest := [.ref q32_2, .int (nI k), .ref q7_0]) ⟨hx, hb, hml, hown, hts⟩ (c_Cell_init l D q32_2 H.size) rfl (by show fg_nm y_Cell_init 0; decide +kernel) o_522 u_415 u_188 u_416 ⟨Nat.le_of_ble_eq_true rfl, Nat.le_of_ble_eq_true rfl⟩ hX (hP.sub (ws' := [(q32_2, .inr (10, [.int 0, .int 0, .int 0, .int 0, .int 0, .int 0, .null]))]) [2] rfl) (hK.sub (tys' := []) [] rfl) (hD.sub (ws' := [(q32_2, .inr (10, [.int 0, .int 0, .int 0, .int 0, .int 0, .int 0, .null]))]) [2] (by decide) rfl) rfl hl.1 (Nat.le_of_ble_eq_true rfl) d_State_init_36 ⟨(by show _ ≤ 151; simp only [rm_Cell_init]; omega), (by show _ ≤ 1050; simp only [rm_Cell_init]; omega)⟩) hP hD hK hS hA [2] [0, 1] rfl rfl (by decide) (by decide) (fun  u H locs hw36_3 hP hD hK hS => ?_)
        obtain ⟨q1_36_4, rfl⟩ : ∃ z, z = u := ⟨_, rfl⟩
        try dsimp only at hw36_3
        have hP : va_P D classes [(h0, .inr (9, [.ref q7_0, .int 11, .int 0, .int 0, .int 0])), (q7_0, .inl (k7_0, 75, .inr (.inr (.inr (.inr f))))), (q32_2, .inr (10, [.int 0, .int 0, .int 0, .int 0, .int 0, .int 0, .ref q1_36_4])), (q1_36_4, .inr (11, [.long 0, .long 0, .long 0, .long 0, .long 0, .long 0]))] H := hP
        have hD : va_D A [(h0, .inr (9, [.ref q7_0, .int 11, .int 0, .int 0, .int 0])), (q7_0, .inl (k7_0, 75, .inr (.inr (.inr (.inr f))))), (q32_2, .inr (10, [.int 0, .int 0, .int 0, .int 0, .int 0, .int 0, .ref q1_36_4])), (q1_36_4, .inr (11, [.long 0, .long 0, .long 0, .long 0, .long 0, .long 0]))] := hD
        have hK : va_K D classes [(k7_0, (.object "FilterGuard$Cell"))] s := hK
        refine W.widen (k := 1 + 2 * k + 1 + 1) (n := 75 + 13 * k + 7 + 6) (by simp only [rm_Cell_init]; omega) (by simp only [rm_Cell_init]; omega) ?_
        refine va_astq hx hb hK hP hD hS 1 0 2 10 rfl rfl rfl rfl (vp_in_nI hlt (by decide)) d_State_init_39 (fun H locs hP hD hS => ?_)
        have hP : va_P D classes [(h0, .inr (9, [.ref q7_0, .int 11, .int 0, .int 0, .int 0])), (q7_0, .inl (k7_0, 75, .inr (.inr (.inr (.inr (va_up f ((nI k).toNatClampNeg) (some q32_2))))))), (q32_2, .inr (10, [.int 0, .int 0, .int 0, .int 0, .int 0, .int 0, .ref q1_36_4])), (q1_36_4, .inr (11, [.long 0, .long 0, .long 0, .long 0, .long 0, .long 0]))] H := hP
        have hD : va_D A [(h0, .inr (9, [.ref q7_0, .int 11, .int 0, .int 0, .int 0])), (q7_0, .inl (k7_0, 75, .inr (.inr (.inr (.inr (va_up f ((nI k).toNatClampNeg) (some q32_2))))))), (q32_2, .inr (10, [.int 0, .int 0, .int 0, .int 0, .int 0, .int 0, .ref q1_36_4])), (q1_36_4, .inr (11, [.long 0, .long 0, .long 0, .long 0, .long 0, .long 0]))] := hD
        obtain ⟨f_6, ef_6⟩ : ∃ g : Nat → Option Nat, g = va_up f ((nI k).toNatClampNeg) (some q32_2) := ⟨_, rfl⟩
        rw [← ef_6] at hP hD
        refine lv_iinc (v := nI (k + 1)) (lv' := [(1, .int (nI (k + 1))), (0, .ref h0)]) hx hb d_State_init_40 hl (k := 0) rfl (nI_1 k) (by decide) rfl (fun ls hl => ?_)
        refine lv_goto (tgt := 21) hx hb d_State_init_43 (by decide) ?_
        refine W.widen (k := 1 + 2 * (k + 1)) (n := 75 + 13 * (k + 1)) (by omega) (by omega) ?_
        exact ih (k + 1) f_6 _ _ _ (by omega) (by omega) (hP.sub (ws' := [(h0, .inr (9, [.ref q7_0, .int 11, .int 0, .int 0, .int 0])), (q7_0, .inl (k7_0, 75, .inr (.inr (.inr (.inr f_6)))))]) [0, 1] rfl) (hD.sub (ws' := [(h0, .inr (9, [.ref q7_0, .int 11, .int 0, .int 0, .int 0])), (q7_0, .inl (k7_0, 75, .inr (.inr (.inr (.inr f_6)))))]) [0, 1] (by decide) rfl) hS (lv_sub hl [0, 1] rfl)
  refine W.widen (k := 1 + 2 * 0) (n := 75 + 13 * 0) (by omega) (by omega) ?_
  exact loop21 (75 + 1) 0 (fun _ => none) _ _ _ (by omega) (by omega) (hP.sub (ws' := [(h0, .inr (9, [.ref q7_0, .int 11, .int 0, .int 0, .int 0])), (q7_0, .inl (k7_0, 75, .inr (.inr (.inr (.inr (fun _ => none))))))]) [0, 1] rfl) (hD.sub (ws' := [(h0, .inr (9, [.ref q7_0, .int 11, .int 0, .int 0, .int 0])), (q7_0, .inl (k7_0, 75, .inr (.inr (.inr (.inr (fun _ => none))))))]) [0, 1] (by decide) rfl) hS (lv_sub hl [0, 1] rfl)
