theorem d_Law_law_120 : decode code 120 = .ok (.aload_n 1, 1) := by decide +kernel
theorem d_Law_law_121 : decode code 121 = .ok (.aload_n 0, 1) := by decide +kernel
theorem d_Law_law_122 : decode code 122 = .ok (.iload 4, 2) := by decide +kernel
theorem d_Law_law_124 : decode code 124 = .ok (.iconst 1, 1) := by decide +kernel
theorem d_Law_law_125 : decode code 125 = .ok (.iadd, 1) := by decide +kernel
theorem d_Law_law_126 : decode code 126 = .ok (.iaload, 1) := by decide +kernel
theorem d_Law_law_127 : decode code 127 = .ok (.aload_n 0, 1) := by decide +kernel
theorem d_Law_law_128 : decode code 128 = .ok (.iload 4, 2) := by decide +kernel
theorem d_Law_law_130 : decode code 130 = .ok (.iconst 2, 1) := by decide +kernel
theorem d_Law_law_131 : decode code 131 = .ok (.iadd, 1) := by decide +kernel
theorem d_Law_law_132 : decode code 132 = .ok (.iaload, 1) := by decide +kernel
theorem d_Law_law_133 : decode code 133 = .ok (.aload_n 0, 1) := by decide +kernel
theorem d_Law_law_134 : decode code 134 = .ok (.iload 4, 2) := by decide +kernel
theorem d_Law_law_136 : decode code 136 = .ok (.iconst 3, 1) := by decide +kernel
theorem d_Law_law_137 : decode code 137 = .ok (.iadd, 1) := by decide +kernel
theorem d_Law_law_138 : decode code 138 = .ok (.iaload, 1) := by decide +kernel
theorem d_Law_law_139 : decode code 139 = .ok (.aload_n 0, 1) := by decide +kernel
theorem d_Law_law_140 : decode code 140 = .ok (.iload 4, 2) := by decide +kernel
theorem d_Law_law_142 : decode code 142 = .ok (.iconst 4, 1) := by decide +kernel
theorem d_Law_law_143 : decode code 143 = .ok (.iadd, 1) := by decide +kernel
theorem d_Law_law_144 : decode code 144 = .ok (.iaload, 1) := by decide +kernel
theorem d_Law_law_145 : decode code 145 = .ok (.aload_n 0, 1) := by decide +kernel
theorem d_Law_law_146 : decode code 146 = .ok (.iload 4, 2) := by decide +kernel
theorem d_Law_law_148 : decode code 148 = .ok (.iconst 5, 1) := by decide +kernel
theorem d_Law_law_149 : decode code 149 = .ok (.iadd, 1) := by decide +kernel
theorem d_Law_law_150 : decode code 150 = .ok (.iaload, 1) := by decide +kernel
theorem d_Law_law_151 : decode code 151 = .ok (.invokevirtual 53, 3) := by decide +kernel
theorem u_736 : Cond.methodLink "FilterGuardLaw" 53 ⟨"FilterGuard", "feed", "(IIIII)Z"⟩ ∈ fg_g := fg_in (List.mem_of_getElem? (i := 736) (by decide +kernel)) rfl
theorem u_739 : Cond.code ⟨"FilterGuard", "feed", "(IIIII)Z"⟩ prog_1_method_2_code 6 (some .boolean) ∈ fg_g := fg_in (List.mem_of_getElem? (i := 739) (by decide +kernel)) rfl
theorem u_737 : Cond.instanceMethod ⟨"FilterGuard", "feed", "(IIIII)Z"⟩ ∈ fg_g := fg_in (List.mem_of_getElem? (i := 737) (by decide +kernel)) rfl
theorem u_738 : Cond.selects "FilterGuard" ⟨"FilterGuard", "feed", "(IIIII)Z"⟩ ⟨"FilterGuard", "feed", "(IIIII)Z"⟩ ∈ fg_g := fg_in (List.mem_of_getElem? (i := 738) (by decide +kernel)) rfl
theorem d_Law_law_154 : decode code 154 = .ok (.aload_n 2, 1) := by decide +kernel
theorem d_Law_law_155 : decode code 155 = .ok (.aload_n 0, 1) := by decide +kernel
theorem d_Law_law_156 : decode code 156 = .ok (.iload 4, 2) := by decide +kernel
theorem d_Law_law_158 : decode code 158 = .ok (.iconst 1, 1) := by decide +kernel
theorem d_Law_law_159 : decode code 159 = .ok (.iadd, 1) := by decide +kernel
theorem d_Law_law_160 : decode code 160 = .ok (.iaload, 1) := by decide +kernel
theorem d_Law_law_161 : decode code 161 = .ok (.aload_n 0, 1) := by decide +kernel
theorem d_Law_law_162 : decode code 162 = .ok (.iload 4, 2) := by decide +kernel
theorem d_Law_law_164 : decode code 164 = .ok (.iconst 2, 1) := by decide +kernel
theorem d_Law_law_165 : decode code 165 = .ok (.iadd, 1) := by decide +kernel
theorem d_Law_law_166 : decode code 166 = .ok (.iaload, 1) := by decide +kernel
theorem d_Law_law_167 : decode code 167 = .ok (.aload_n 0, 1) := by decide +kernel
theorem d_Law_law_168 : decode code 168 = .ok (.iload 4, 2) := by decide +kernel
theorem d_Law_law_170 : decode code 170 = .ok (.iconst 3, 1) := by decide +kernel
theorem d_Law_law_171 : decode code 171 = .ok (.iadd, 1) := by decide +kernel
theorem d_Law_law_172 : decode code 172 = .ok (.iaload, 1) := by decide +kernel
theorem d_Law_law_173 : decode code 173 = .ok (.aload_n 0, 1) := by decide +kernel
theorem d_Law_law_174 : decode code 174 = .ok (.iload 4, 2) := by decide +kernel
theorem d_Law_law_176 : decode code 176 = .ok (.iconst 4, 1) := by decide +kernel
theorem d_Law_law_177 : decode code 177 = .ok (.iadd, 1) := by decide +kernel
theorem d_Law_law_178 : decode code 178 = .ok (.iaload, 1) := by decide +kernel
theorem d_Law_law_179 : decode code 179 = .ok (.aload_n 0, 1) := by decide +kernel
theorem d_Law_law_180 : decode code 180 = .ok (.iload 4, 2) := by decide +kernel
theorem d_Law_law_182 : decode code 182 = .ok (.iconst 5, 1) := by decide +kernel
theorem d_Law_law_183 : decode code 183 = .ok (.iadd, 1) := by decide +kernel
theorem d_Law_law_184 : decode code 184 = .ok (.iaload, 1) := by decide +kernel
theorem d_Law_law_185 : decode code 185 = .ok (.invokevirtual 57, 3) := by decide +kernel
theorem u_2415 : Cond.methodLink "FilterGuardLaw" 57 ⟨"FilterGuardModel", "feed", "(IIIII)Z"⟩ ∈ fg_g := fg_in (List.mem_of_getElem? (i := 2415) (by decide +kernel)) rfl
theorem u_2418 : Cond.code ⟨"FilterGuardModel", "feed", "(IIIII)Z"⟩ prog_14_method_114_code 8 (some .boolean) ∈ fg_g := fg_in (List.mem_of_getElem? (i := 2418) (by decide +kernel)) rfl
theorem u_2416 : Cond.instanceMethod ⟨"FilterGuardModel", "feed", "(IIIII)Z"⟩ ∈ fg_g := fg_in (List.mem_of_getElem? (i := 2416) (by decide +kernel)) rfl
theorem u_2417 : Cond.selects "FilterGuardModel" ⟨"FilterGuardModel", "feed", "(IIIII)Z"⟩ ⟨"FilterGuardModel", "feed", "(IIIII)Z"⟩ ∈ fg_g := fg_in (List.mem_of_getElem? (i := 2417) (by decide +kernel)) rfl
theorem d_Law_law_188 : decode code 188 = .ok (.if_icmp .eq 841, 3) := by decide +kernel
set_option maxHeartbeats 4000000 in
set_option maxRecDepth 100000 in
theorem law_0 {p : Program} {l : Launch} {e : Env} {s : Jvm.State} {m : MethodId} {below : List Frame} {meth : Method} {c : Code} {b L i : Nat} {xs : Nat → Int32} {A : Nat → Prop} {D : va_G} {ca : Nat → ClassId} {ad bd : Nat → Nat → Nat} {N NR : Nat → Nat} {M M1 R R1 : me_M} {jo : Nat} {H : Heap} {locs : List Loc} {ls : Array Slot} {cells slots : Nat} {Q : Jvm.State → Prop} {r : Int32} (hl9 : l.stackTraces = false) (hx : p.tables.exec = Jvm.exec) (hb : c.code = code) (hml : c.maxLocals = 8) (hown : s.vm.findClass "FilterGuardLaw" = some m.cls) (hts : ∀ w ∈ fg_g, w.before #[Value.ref b] s = true) (hX : fg_X s) (hz : fg_Z A s s.heap) (hy : fg_Y s) (hXs : va_X b L xs s s.heap) (hbl : b < s.heap.size) (hbA : ¬ A b) (hA : ∀ q : Nat, s.heap.size ≤ q → A q) (hK : va_K D classes (me_T ca) s) (hL : L ≤ 3072) (hi : i + 6 ≤ L) (hwf : me_wf N M) (hwr : me_wf NR R) (hcl : me_cN N ≤ me_CL ∧ me_sN N ≤ me_SL) (h00 : 0 < N 0) (h10 : 0 < NR 1) (hjo : jo < N 16) (hP : va_P D classes (me_W ad ca M ++ me_W bd ca R) H) (hD : va_D A (me_W ad ca M ++ me_W bd ca R)) (hS : va_S A s.heap H locs) (hl : lv_has ls 8 [(4, .int (nI i)), (3, .ref (ad 16 jo)), (2, .ref (bd 1 0)), (1, .ref (ad 0 0)), (0, .ref b)]) (hfit : cells + (me_CL - me_cN N) + 8 ≤ 601024 ∧ slots + (me_SL - me_sN N) + 48 ≤ 7293034) (e1 : f_G_feed M 0 (xs (i + 1)) (xs (i + 2)) (xs (i + 3)) (xs (i + 4)) (xs (i + 5)) = some (M1, r)) (e2 : f_M_feed R 0 (xs (i + 1)) (xs (i + 2)) (xs (i + 3)) (xs (i + 4)) (xs (i + 5)) = some (R1, r)) (kk : ∀ (ad1 : Nat → Nat → Nat) (N1 : Nat → Nat) (H1 : Heap) (locs1 : List Loc) (ls1 : Array Slot) (cells1 slots1 : Nat), (∀ a, N a ≤ N1 a) → me_wf N1 M1 → me_wf NR R1 → (me_cN N1 ≤ me_CL ∧ me_sN N1 ≤ me_SL) → va_P D classes (me_W ad1 ca M1 ++ me_W bd ca R1) H1 → va_D A (me_W ad1 ca M1 ++ me_W bd ca R1) → va_S A s.heap H1 locs1 → lv_has ls1 8 [(4, .int (nI i)), (3, .ref (ad1 16 jo)), (2, .ref (bd 1 0)), (1, .ref (ad1 0 0)), (0, .ref b)] → cells1 + me_cN N ≤ cells + me_cN N1 + 1 → slots1 + me_sN N ≤ slots + me_sN N1 + 6 → W p l e room_1 s m #[Value.ref b] below meth c H1 locs1 cells1 slots1 Q (F0 m 1029 ls1 [])) : W p l e room_1 s m #[Value.ref b] below meth c H locs cells slots Q (F0 m 120 ls []) := by
  refine lv_aload_n hx hb d_Law_law_120 rfl (lv_at hl 3 rfl) ?_
  refine lv_aload_n hx hb d_Law_law_121 rfl (lv_at hl 4 rfl) ?_
  refine lv_iload hx hb d_Law_law_122 (lv_at hl 0 rfl) ?_
  refine lv_iconst (v := 1) hx hb d_Law_law_124 (by decide) ?_
  refine lv_iadd hx hb d_Law_law_125 ?_
  refine fg_topi (y := nI (i + 1)) (nI_add i 1) ?_
  refine va_sld hx hb hXs hbl hbA hS (nI_in (c := i + 1) (N := L) (by omega) (by omega)) d_Law_law_126 ?_
  refine fg_topi (y := xs (i + 1)) (by rw [nI_clamp (by omega)]) ?_
  refine lv_aload_n hx hb d_Law_law_127 rfl (lv_at hl 4 rfl) ?_
  refine lv_iload hx hb d_Law_law_128 (lv_at hl 0 rfl) ?_
  refine lv_iconst (v := 2) hx hb d_Law_law_130 (by decide) ?_
  refine lv_iadd hx hb d_Law_law_131 ?_
  refine fg_topi (y := nI (i + 2)) (nI_add i 2) ?_
  refine va_sld hx hb hXs hbl hbA hS (nI_in (c := i + 2) (N := L) (by omega) (by omega)) d_Law_law_132 ?_
  refine fg_topi (y := xs (i + 2)) (by rw [nI_clamp (by omega)]) ?_
  refine lv_aload_n hx hb d_Law_law_133 rfl (lv_at hl 4 rfl) ?_
  refine lv_iload hx hb d_Law_law_134 (lv_at hl 0 rfl) ?_
  refine lv_iconst (v := 3) hx hb d_Law_law_136 (by decide) ?_
  refine lv_iadd hx hb d_Law_law_137 ?_
  refine fg_topi (y := nI (i + 3)) (nI_add i 3) ?_
  refine va_sld hx hb hXs hbl hbA hS (nI_in (c := i + 3) (N := L) (by omega) (by omega)) d_Law_law_138 ?_
  refine fg_topi (y := xs (i + 3)) (by rw [nI_clamp (by omega)]) ?_
  refine lv_aload_n hx hb d_Law_law_139 rfl (lv_at hl 4 rfl) ?_
  refine lv_iload hx hb d_Law_law_140 (lv_at hl 0 rfl) ?_
  refine lv_iconst (v := 4) hx hb d_Law_law_142 (by decide) ?_
  refine lv_iadd hx hb d_Law_law_143 ?_
  refine fg_topi (y := nI (i + 4)) (nI_add i 4) ?_
  refine va_sld hx hb hXs hbl hbA hS (nI_in (c := i + 4) (N := L) (by omega) (by omega)) d_Law_law_144 ?_
  refine fg_topi (y := xs (i + 4)) (by rw [nI_clamp (by omega)]) ?_
  refine lv_aload_n hx hb d_Law_law_145 rfl (lv_at hl 4 rfl) ?_
  refine lv_iload hx hb d_Law_law_146 (lv_at hl 0 rfl) ?_
  refine lv_iconst (v := 5) hx hb d_Law_law_148 (by decide) ?_
  refine lv_iadd hx hb d_Law_law_149 ?_
  refine fg_topi (y := nI (i + 5)) (nI_add i 5) ?_
  refine va_sld hx hb hXs hbl hbA hS (nI_in (c := i + 5) (N := L) (by omega) (by omega)) d_Law_law_150 ?_
  refine fg_topi (y := xs (i + 5)) (by rw [nI_clamp (by omega)]) ?_
  refine lw_Mai (r0 := r) (M1 := M1) (al_runV (C := "FilterGuard") (As := [.int (xs (i + 1)), .int (xs (i + 2)), .int (xs (i + 3)), .int (xs (i + 4)), .int (xs (i + 5))]) (rest := []) ⟨hx, hb, hml, hown, hts⟩ (c_G_feed l D ad ca N M M1 r 0 (xs (i + 1)) (xs (i + 2)) (xs (i + 3)) (xs (i + 4)) (xs (i + 5)) e1 hwf hcl h00 _) rfl (by show fg_nm y_G_feed 5; decide +kernel) u_736 u_737 u_738 u_181 u_739 ⟨Nat.le_of_ble_eq_true rfl, Nat.le_of_ble_eq_true rfl⟩ hX hz.2 hK (fk_Pl hP) (fk_Dl hD) hwf hS hA h00 (by decide) rfl rfl rfl hl.1 (Nat.le_of_ble_eq_true rfl) d_Law_law_151 (by exact lw_fa hfit)) hP hD hK hS hA (fun ad1 H locs hw hq9 hP hD hS => ?_)
  obtain ⟨hwf, hok, hext⟩ := hw
  obtain ⟨N1, hN1⟩ : ∃ z, z = mN M1 := ⟨_, rfl⟩
  rw [← hN1] at hwf hok ⊢
  have hl : lv_has ls 8 [(4, .int (nI i)), (3, .ref (ad1 16 jo)), (2, .ref (bd 1 0)), (1, .ref (ad1 0 0)), (0, .ref b)] := by rw [hext 16 jo hjo, hext 0 0 h00]; exact hl
  have hNN := hok.2.2.2.2
  have hjo : jo < N1 16 := Nat.lt_of_lt_of_le hjo (hNN 16)
  have h00 : 0 < N1 0 := Nat.lt_of_lt_of_le h00 (hNN 0)
  have hfit := lw_fg hfit hok
  generalize hce : cells + (me_cN N1 - me_cN N) = cells1 at hfit ⊢
  generalize hse : slots + (me_sN N1 - me_sN N) = slots1 at hfit ⊢
  refine lv_aload_n hx hb d_Law_law_154 rfl (lv_at hl 2 rfl) ?_
  refine lv_aload_n hx hb d_Law_law_155 rfl (lv_at hl 4 rfl) ?_
  refine lv_iload hx hb d_Law_law_156 (lv_at hl 0 rfl) ?_
  refine lv_iconst (v := 1) hx hb d_Law_law_158 (by decide) ?_
  refine lv_iadd hx hb d_Law_law_159 ?_
  refine fg_topi (y := nI (i + 1)) (nI_add i 1) ?_
  refine va_sld hx hb hXs hbl hbA hS (nI_in (c := i + 1) (N := L) (by omega) (by omega)) d_Law_law_160 ?_
  refine fg_topi (y := xs (i + 1)) (by rw [nI_clamp (by omega)]) ?_
  refine lv_aload_n hx hb d_Law_law_161 rfl (lv_at hl 4 rfl) ?_
  refine lv_iload hx hb d_Law_law_162 (lv_at hl 0 rfl) ?_
  refine lv_iconst (v := 2) hx hb d_Law_law_164 (by decide) ?_
  refine lv_iadd hx hb d_Law_law_165 ?_
  refine fg_topi (y := nI (i + 2)) (nI_add i 2) ?_
  refine va_sld hx hb hXs hbl hbA hS (nI_in (c := i + 2) (N := L) (by omega) (by omega)) d_Law_law_166 ?_
  refine fg_topi (y := xs (i + 2)) (by rw [nI_clamp (by omega)]) ?_
  refine lv_aload_n hx hb d_Law_law_167 rfl (lv_at hl 4 rfl) ?_
  refine lv_iload hx hb d_Law_law_168 (lv_at hl 0 rfl) ?_
  refine lv_iconst (v := 3) hx hb d_Law_law_170 (by decide) ?_
  refine lv_iadd hx hb d_Law_law_171 ?_
  refine fg_topi (y := nI (i + 3)) (nI_add i 3) ?_
  refine va_sld hx hb hXs hbl hbA hS (nI_in (c := i + 3) (N := L) (by omega) (by omega)) d_Law_law_172 ?_
  refine fg_topi (y := xs (i + 3)) (by rw [nI_clamp (by omega)]) ?_
  refine lv_aload_n hx hb d_Law_law_173 rfl (lv_at hl 4 rfl) ?_
  refine lv_iload hx hb d_Law_law_174 (lv_at hl 0 rfl) ?_
  refine lv_iconst (v := 4) hx hb d_Law_law_176 (by decide) ?_
  refine lv_iadd hx hb d_Law_law_177 ?_
  refine fg_topi (y := nI (i + 4)) (nI_add i 4) ?_
  refine va_sld hx hb hXs hbl hbA hS (nI_in (c := i + 4) (N := L) (by omega) (by omega)) d_Law_law_178 ?_
  refine fg_topi (y := xs (i + 4)) (by rw [nI_clamp (by omega)]) ?_
  refine lv_aload_n hx hb d_Law_law_179 rfl (lv_at hl 4 rfl) ?_
  refine lv_iload hx hb d_Law_law_180 (lv_at hl 0 rfl) ?_
  refine lv_iconst (v := 5) hx hb d_Law_law_182 (by decide) ?_
  refine lv_iadd hx hb d_Law_law_183 ?_
  refine fg_topi (y := nI (i + 5)) (nI_add i 5) ?_
  refine va_sld hx hb hXs hbl hbA hS (nI_in (c := i + 5) (N := L) (by omega) (by omega)) d_Law_law_184 ?_
  refine fg_topi (y := xs (i + 5)) (by rw [nI_clamp (by omega)]) ?_
  refine lw_Ri (r0 := r) (R1 := R1) (me_runV (C := "FilterGuardModel") (As := [.int (xs (i + 1)), .int (xs (i + 2)), .int (xs (i + 3)), .int (xs (i + 4)), .int (xs (i + 5))]) (rest := [.int r]) ⟨hx, hb, hml, hown, hts⟩ (c_M_feed l D bd ca NR R R1 r 0 (xs (i + 1)) (xs (i + 2)) (xs (i + 3)) (xs (i + 4)) (xs (i + 5)) e2 hwr h10 _) rfl (by show fg_nm y_M_feed 5; decide +kernel) u_2415 u_2416 u_2417 u_192 u_2418 ⟨Nat.le_of_ble_eq_true rfl, Nat.le_of_ble_eq_true rfl⟩ hX hz.2 hK (fk_Pr hP) (fk_Dr hD) hwr hS hA h10 (by decide) rfl rfl rfl hl.1 (Nat.le_of_ble_eq_true rfl) d_Law_law_185 (by exact lw_f2 hfit)) hP hD hK hS hA (fun H locs hw hP hD hS => ?_)
  refine W.widen (k := cells1) (n := slots1) (Nat.le_refl _) (Nat.le_refl _) ?_
  have hwr := hw.1
  refine lv_icmp_eq (tgt := 1029) hx hb d_Law_law_188 (by decide) (fun c9 => ?_) (fun c9 => absurd rfl c9)
  exact kk ad1 N1 _ _ _ _ _ hNN hwf hwr ⟨hok.2.2.1, hok.2.2.2.1⟩ hP hD hS (lv_sub hl [0, 1, 2, 3, 4] rfl) (by have := hok.1; omega) (by have := hok.2.1; omega)
theorem d_Law_law_193 : decode code 193 = .ok (.aload_n 1, 1) := by decide +kernel
theorem d_Law_law_194 : decode code 194 = .ok (.aload_n 0, 1) := by decide +kernel
theorem d_Law_law_195 : decode code 195 = .ok (.iload 4, 2) := by decide +kernel
theorem d_Law_law_197 : decode code 197 = .ok (.iconst 1, 1) := by decide +kernel
theorem d_Law_law_198 : decode code 198 = .ok (.iadd, 1) := by decide +kernel
theorem d_Law_law_199 : decode code 199 = .ok (.iaload, 1) := by decide +kernel
theorem d_Law_law_200 : decode code 200 = .ok (.aload_n 0, 1) := by decide +kernel
theorem d_Law_law_201 : decode code 201 = .ok (.iload 4, 2) := by decide +kernel
theorem d_Law_law_203 : decode code 203 = .ok (.iconst 2, 1) := by decide +kernel
theorem d_Law_law_204 : decode code 204 = .ok (.iadd, 1) := by decide +kernel
theorem d_Law_law_205 : decode code 205 = .ok (.iaload, 1) := by decide +kernel
theorem d_Law_law_206 : decode code 206 = .ok (.aload_n 0, 1) := by decide +kernel
theorem d_Law_law_207 : decode code 207 = .ok (.iload 4, 2) := by decide +kernel
theorem d_Law_law_209 : decode code 209 = .ok (.iconst 3, 1) := by decide +kernel
theorem d_Law_law_210 : decode code 210 = .ok (.iadd, 1) := by decide +kernel
theorem d_Law_law_211 : decode code 211 = .ok (.iaload, 1) := by decide +kernel
theorem d_Law_law_212 : decode code 212 = .ok (.aload_n 0, 1) := by decide +kernel
theorem d_Law_law_213 : decode code 213 = .ok (.iload 4, 2) := by decide +kernel
theorem d_Law_law_215 : decode code 215 = .ok (.iconst 4, 1) := by decide +kernel
theorem d_Law_law_216 : decode code 216 = .ok (.iadd, 1) := by decide +kernel
theorem d_Law_law_217 : decode code 217 = .ok (.iaload, 1) := by decide +kernel
theorem d_Law_law_218 : decode code 218 = .ok (.aload_n 3, 1) := by decide +kernel
theorem d_Law_law_219 : decode code 219 = .ok (.invokestatic 58, 3) := by decide +kernel
theorem u_803 : Cond.methodLink "FilterGuardLaw" 58 ⟨"FilterGuardLaw", "map", "(LFilterGuard;IIII[J)I"⟩ ∈ fg_g := fg_in (List.mem_of_getElem? (i := 803) (by decide +kernel)) rfl
theorem u_180 : Cond.initialized "FilterGuardLaw" ∈ fg_g := fg_in (List.mem_of_getElem? (i := 180) (by decide +kernel)) rfl
theorem u_805 : Cond.codeWith ⟨"FilterGuardLaw", "map", "(LFilterGuard;IIII[J)I"⟩ method_3_code 7 (some .int) [(0, 14, 17, 13), (0, 14, 21, 15)] ∈ fg_g := fg_in (List.mem_of_getElem? (i := 805) (by decide +kernel)) rfl
theorem u_804 : Cond.static ⟨"FilterGuardLaw", "map", "(LFilterGuard;IIII[J)I"⟩ ∈ fg_g := fg_in (List.mem_of_getElem? (i := 804) (by decide +kernel)) rfl
theorem d_Law_law_222 : decode code 222 = .ok (.istore 5, 2) := by decide +kernel
theorem d_Law_law_224 : decode code 224 = .ok (.aload_n 2, 1) := by decide +kernel
theorem d_Law_law_225 : decode code 225 = .ok (.aload_n 0, 1) := by decide +kernel
theorem d_Law_law_226 : decode code 226 = .ok (.iload 4, 2) := by decide +kernel
theorem d_Law_law_228 : decode code 228 = .ok (.iconst 1, 1) := by decide +kernel
theorem d_Law_law_229 : decode code 229 = .ok (.iadd, 1) := by decide +kernel
theorem d_Law_law_230 : decode code 230 = .ok (.iaload, 1) := by decide +kernel
theorem d_Law_law_231 : decode code 231 = .ok (.aload_n 0, 1) := by decide +kernel
theorem d_Law_law_232 : decode code 232 = .ok (.iload 4, 2) := by decide +kernel
theorem d_Law_law_234 : decode code 234 = .ok (.iconst 2, 1) := by decide +kernel
theorem d_Law_law_235 : decode code 235 = .ok (.iadd, 1) := by decide +kernel
theorem d_Law_law_236 : decode code 236 = .ok (.iaload, 1) := by decide +kernel
theorem d_Law_law_237 : decode code 237 = .ok (.aload_n 0, 1) := by decide +kernel
theorem d_Law_law_238 : decode code 238 = .ok (.iload 4, 2) := by decide +kernel
theorem d_Law_law_240 : decode code 240 = .ok (.iconst 3, 1) := by decide +kernel
theorem d_Law_law_241 : decode code 241 = .ok (.iadd, 1) := by decide +kernel
theorem d_Law_law_242 : decode code 242 = .ok (.iaload, 1) := by decide +kernel
theorem d_Law_law_243 : decode code 243 = .ok (.aload_n 0, 1) := by decide +kernel
theorem d_Law_law_244 : decode code 244 = .ok (.iload 4, 2) := by decide +kernel
theorem d_Law_law_246 : decode code 246 = .ok (.iconst 4, 1) := by decide +kernel
theorem d_Law_law_247 : decode code 247 = .ok (.iadd, 1) := by decide +kernel
theorem d_Law_law_248 : decode code 248 = .ok (.iaload, 1) := by decide +kernel
theorem d_Law_law_249 : decode code 249 = .ok (.invokevirtual 63, 3) := by decide +kernel
theorem u_2419 : Cond.methodLink "FilterGuardLaw" 63 ⟨"FilterGuardModel", "map", "(IIII)I"⟩ ∈ fg_g := fg_in (List.mem_of_getElem? (i := 2419) (by decide +kernel)) rfl
theorem u_2422 : Cond.code ⟨"FilterGuardModel", "map", "(IIII)I"⟩ prog_14_method_115_code 7 (some .int) ∈ fg_g := fg_in (List.mem_of_getElem? (i := 2422) (by decide +kernel)) rfl
theorem u_2420 : Cond.instanceMethod ⟨"FilterGuardModel", "map", "(IIII)I"⟩ ∈ fg_g := fg_in (List.mem_of_getElem? (i := 2420) (by decide +kernel)) rfl
theorem u_2421 : Cond.selects "FilterGuardModel" ⟨"FilterGuardModel", "map", "(IIII)I"⟩ ⟨"FilterGuardModel", "map", "(IIII)I"⟩ ∈ fg_g := fg_in (List.mem_of_getElem? (i := 2421) (by decide +kernel)) rfl
theorem d_Law_law_252 : decode code 252 = .ok (.istore 6, 2) := by decide +kernel
theorem d_Law_law_254 : decode code 254 = .ok (.aload_n 2, 1) := by decide +kernel
theorem d_Law_law_255 : decode code 255 = .ok (.invokevirtual 64, 3) := by decide +kernel
theorem u_1967 : Cond.methodLink "FilterGuardLaw" 64 ⟨"FilterGuardModel", "thrown", "()I"⟩ ∈ fg_g := fg_in (List.mem_of_getElem? (i := 1967) (by decide +kernel)) rfl
theorem u_1970 : Cond.code ⟨"FilterGuardModel", "thrown", "()I"⟩ prog_14_method_2_code 1 (some .int) ∈ fg_g := fg_in (List.mem_of_getElem? (i := 1970) (by decide +kernel)) rfl
theorem u_1968 : Cond.instanceMethod ⟨"FilterGuardModel", "thrown", "()I"⟩ ∈ fg_g := fg_in (List.mem_of_getElem? (i := 1968) (by decide +kernel)) rfl
theorem u_1969 : Cond.selects "FilterGuardModel" ⟨"FilterGuardModel", "thrown", "()I"⟩ ⟨"FilterGuardModel", "thrown", "()I"⟩ ∈ fg_g := fg_in (List.mem_of_getElem? (i := 1969) (by decide +kernel)) rfl
theorem d_Law_law_258 : decode code 258 = .ok (.iload 5, 2) := by decide +kernel
theorem d_Law_law_260 : decode code 260 = .ok (.if_icmp .eq 5, 3) := by decide +kernel
theorem d_Law_law_265 : decode code 265 = .ok (.iload 5, 2) := by decide +kernel
theorem d_Law_law_267 : decode code 267 = .ok (.ifCond .ne 15, 3) := by decide +kernel
theorem d_Law_law_270 : decode code 270 = .ok (.aload_n 3, 1) := by decide +kernel
theorem d_Law_law_271 : decode code 271 = .ok (.iconst 0, 1) := by decide +kernel
theorem d_Law_law_272 : decode code 272 = .ok (.laload, 1) := by decide +kernel
theorem d_Law_law_273 : decode code 273 = .ok (.iload 6, 2) := by decide +kernel
theorem d_Law_law_275 : decode code 275 = .ok (.i2l, 1) := by decide +kernel
theorem d_Law_law_276 : decode code 276 = .ok (.lcmp, 1) := by decide +kernel
theorem d_Law_law_277 : decode code 277 = .ok (.ifCond .eq 5, 3) := by decide +kernel
theorem d_Law_law_282 : decode code 282 = .ok (.goto 747, 3) := by decide +kernel
set_option maxHeartbeats 4000000 in
set_option maxRecDepth 100000 in
theorem law_1_0 {p : Program} {l : Launch} {e : Env} {s : Jvm.State} {m : MethodId} {below : List Frame} {meth : Method} {c : Code} {b L i : Nat} {xs : Nat → Int32} {A : Nat → Prop} {D : va_G} {ca : Nat → ClassId} {ad bd : Nat → Nat → Nat} {N NR : Nat → Nat} {M M1 R R1 : me_M} {jo : Nat} {H : Heap} {locs : List Loc} {ls : Array Slot} {cells slots : Nat} {Q : Jvm.State → Prop} {R2 : me_M} {rb : Int32} (hout : 0 < mZ M1 16 jo) (hl9 : l.stackTraces = false) (hx : p.tables.exec = Jvm.exec) (hb : c.code = code) (hml : c.maxLocals = 8) (hown : s.vm.findClass "FilterGuardLaw" = some m.cls) (hts : ∀ w ∈ fg_g, w.before #[Value.ref b] s = true) (hX : fg_X s) (hz : fg_Z A s s.heap) (hy : fg_Y s) (hXs : va_X b L xs s s.heap) (hbl : b < s.heap.size) (hbA : ¬ A b) (hA : ∀ q : Nat, s.heap.size ≤ q → A q) (hK : va_K D classes (me_T ca) s) (hL : L ≤ 3072) (hi : i + 6 ≤ L) (hwf : me_wf N M) (hwr : me_wf NR R) (hcl : me_cN N ≤ me_CL ∧ me_sN N ≤ me_SL) (h00 : 0 < N 0) (h10 : 0 < NR 1) (hjo : jo < N 16) (hP : va_P D classes (me_W ad ca M ++ me_W bd ca R) H) (hD : va_D A (me_W ad ca M ++ me_W bd ca R)) (hS : va_S A s.heap H locs) (hl : lv_has ls 8 [(4, .int (nI i)), (3, .ref (ad 16 jo)), (2, .ref (bd 1 0)), (1, .ref (ad 0 0)), (0, .ref b)]) (hfit : cells + (me_CL - me_cN N) + 8 ≤ 601024 ∧ slots + (me_SL - me_sN N) + 48 ≤ 7293034) (e1 : f_Law_map M 0 (xs (i + 1)) (xs (i + 2)) (xs (i + 3)) (xs (i + 4)) jo = some (M1, 0)) (e2 : f_M_map R 0 (xs (i + 1)) (xs (i + 2)) (xs (i + 3)) (xs (i + 4)) = some (R2, rb)) (e3 : f_M_thrown R2 0 = some (R1, 0)) (hob : mL M1 16 jo 0 = rb.toInt64) (kk : ∀ (ad1 : Nat → Nat → Nat) (N1 : Nat → Nat) (H1 : Heap) (locs1 : List Loc) (ls1 : Array Slot) (cells1 slots1 : Nat), (∀ a, N a ≤ N1 a) → me_wf N1 M1 → me_wf NR R1 → (me_cN N1 ≤ me_CL ∧ me_sN N1 ≤ me_SL) → va_P D classes (me_W ad1 ca M1 ++ me_W bd ca R1) H1 → va_D A (me_W ad1 ca M1 ++ me_W bd ca R1) → va_S A s.heap H1 locs1 → lv_has ls1 8 [(4, .int (nI i)), (3, .ref (ad1 16 jo)), (2, .ref (bd 1 0)), (1, .ref (ad1 0 0)), (0, .ref b)] → cells1 + me_cN N ≤ cells + me_cN N1 + 1 → slots1 + me_sN N ≤ slots + me_sN N1 + 6 → W p l e room_1 s m #[Value.ref b] below meth c H1 locs1 cells1 slots1 Q (F0 m 1029 ls1 [])) : W p l e room_1 s m #[Value.ref b] below meth c H locs cells slots Q (F0 m 193 ls []) := by
  refine lv_aload_n hx hb d_Law_law_193 rfl (lv_at hl 3 rfl) ?_
  refine lv_aload_n hx hb d_Law_law_194 rfl (lv_at hl 4 rfl) ?_
  refine lv_iload hx hb d_Law_law_195 (lv_at hl 0 rfl) ?_
  refine lv_iconst (v := 1) hx hb d_Law_law_197 (by decide) ?_
  refine lv_iadd hx hb d_Law_law_198 ?_
  refine fg_topi (y := nI (i + 1)) (nI_add i 1) ?_
  refine va_sld hx hb hXs hbl hbA hS (nI_in (c := i + 1) (N := L) (by omega) (by omega)) d_Law_law_199 ?_
  refine fg_topi (y := xs (i + 1)) (by rw [nI_clamp (by omega)]) ?_
  refine lv_aload_n hx hb d_Law_law_200 rfl (lv_at hl 4 rfl) ?_
  refine lv_iload hx hb d_Law_law_201 (lv_at hl 0 rfl) ?_
  refine lv_iconst (v := 2) hx hb d_Law_law_203 (by decide) ?_
  refine lv_iadd hx hb d_Law_law_204 ?_
  refine fg_topi (y := nI (i + 2)) (nI_add i 2) ?_
  refine va_sld hx hb hXs hbl hbA hS (nI_in (c := i + 2) (N := L) (by omega) (by omega)) d_Law_law_205 ?_
  refine fg_topi (y := xs (i + 2)) (by rw [nI_clamp (by omega)]) ?_
  refine lv_aload_n hx hb d_Law_law_206 rfl (lv_at hl 4 rfl) ?_
  refine lv_iload hx hb d_Law_law_207 (lv_at hl 0 rfl) ?_
  refine lv_iconst (v := 3) hx hb d_Law_law_209 (by decide) ?_
  refine lv_iadd hx hb d_Law_law_210 ?_
  refine fg_topi (y := nI (i + 3)) (nI_add i 3) ?_
  refine va_sld hx hb hXs hbl hbA hS (nI_in (c := i + 3) (N := L) (by omega) (by omega)) d_Law_law_211 ?_
  refine fg_topi (y := xs (i + 3)) (by rw [nI_clamp (by omega)]) ?_
  refine lv_aload_n hx hb d_Law_law_212 rfl (lv_at hl 4 rfl) ?_
  refine lv_iload hx hb d_Law_law_213 (lv_at hl 0 rfl) ?_
  refine lv_iconst (v := 4) hx hb d_Law_law_215 (by decide) ?_
  refine lv_iadd hx hb d_Law_law_216 ?_
  refine fg_topi (y := nI (i + 4)) (nI_add i 4) ?_
  refine va_sld hx hb hXs hbl hbA hS (nI_in (c := i + 4) (N := L) (by omega) (by omega)) d_Law_law_217 ?_
  refine fg_topi (y := xs (i + 4)) (by rw [nI_clamp (by omega)]) ?_
  refine lv_aload_n hx hb d_Law_law_218 rfl (lv_at hl 1 rfl) ?_
  refine lw_Mai (r0 := 0) (M1 := M1) (al_runSH (As := [.ref (ad 0 0), .int (xs (i + 1)), .int (xs (i + 2)), .int (xs (i + 3)), .int (xs (i + 4)), .ref (ad 16 jo)]) (rest := []) ⟨hx, hb, hml, hown, hts⟩ (c_Law_map l D ad ca N M M1 0 0 (xs (i + 1)) (xs (i + 2)) (xs (i + 3)) (xs (i + 4)) jo e1 hwf hcl h00 hjo _) (by show fg_nm y_Law_map 6; decide +kernel) u_803 u_804 u_180 u_805 ⟨Nat.le_of_ble_eq_true rfl, Nat.le_of_ble_eq_true rfl⟩ hX (fk_Pl hP) hK (fk_Dl hD) hz hy hS hA rfl hl.1 (Nat.le_of_ble_eq_true rfl) d_Law_law_219 (by exact lw_fa hfit)) hP hD hK hS hA (fun ad1 H locs hw hq9 hP hD hS => ?_)
  obtain ⟨hwf, hok, hext⟩ := hw
  obtain ⟨N1, hN1⟩ : ∃ z, z = mN M1 := ⟨_, rfl⟩
  rw [← hN1] at hwf hok ⊢
  have hl : lv_has ls 8 [(4, .int (nI i)), (3, .ref (ad1 16 jo)), (2, .ref (bd 1 0)), (1, .ref (ad1 0 0)), (0, .ref b)] := by rw [hext 16 jo hjo, hext 0 0 h00]; exact hl
  have hNN := hok.2.2.2.2
  have hjo : jo < N1 16 := Nat.lt_of_lt_of_le hjo (hNN 16)
  have h00 : 0 < N1 0 := Nat.lt_of_lt_of_le h00 (hNN 0)
  have hfit := lw_fg hfit hok
  generalize hce : cells + (me_cN N1 - me_cN N) = cells1 at hfit ⊢
  generalize hse : slots + (me_sN N1 - me_sN N) = slots1 at hfit ⊢
  refine lv_istore (lv' := [(5, .int 0), (4, .int (nI i)), (3, .ref (ad1 16 jo)), (2, .ref (bd 1 0)), (1, .ref (ad1 0 0)), (0, .ref b)]) hx hb d_Law_law_222 hl (by decide) rfl (fun ls hl => ?_)
  refine lv_aload_n hx hb d_Law_law_224 rfl (lv_at hl 3 rfl) ?_
  refine lv_aload_n hx hb d_Law_law_225 rfl (lv_at hl 5 rfl) ?_
  refine lv_iload hx hb d_Law_law_226 (lv_at hl 1 rfl) ?_
  refine lv_iconst (v := 1) hx hb d_Law_law_228 (by decide) ?_
  refine lv_iadd hx hb d_Law_law_229 ?_
  refine fg_topi (y := nI (i + 1)) (nI_add i 1) ?_
  refine va_sld hx hb hXs hbl hbA hS (nI_in (c := i + 1) (N := L) (by omega) (by omega)) d_Law_law_230 ?_
  refine fg_topi (y := xs (i + 1)) (by rw [nI_clamp (by omega)]) ?_
  refine lv_aload_n hx hb d_Law_law_231 rfl (lv_at hl 5 rfl) ?_
  refine lv_iload hx hb d_Law_law_232 (lv_at hl 1 rfl) ?_
  refine lv_iconst (v := 2) hx hb d_Law_law_234 (by decide) ?_
  refine lv_iadd hx hb d_Law_law_235 ?_
  refine fg_topi (y := nI (i + 2)) (nI_add i 2) ?_
  refine va_sld hx hb hXs hbl hbA hS (nI_in (c := i + 2) (N := L) (by omega) (by omega)) d_Law_law_236 ?_
  refine fg_topi (y := xs (i + 2)) (by rw [nI_clamp (by omega)]) ?_
  refine lv_aload_n hx hb d_Law_law_237 rfl (lv_at hl 5 rfl) ?_
  refine lv_iload hx hb d_Law_law_238 (lv_at hl 1 rfl) ?_
  refine lv_iconst (v := 3) hx hb d_Law_law_240 (by decide) ?_
  refine lv_iadd hx hb d_Law_law_241 ?_
  refine fg_topi (y := nI (i + 3)) (nI_add i 3) ?_
  refine va_sld hx hb hXs hbl hbA hS (nI_in (c := i + 3) (N := L) (by omega) (by omega)) d_Law_law_242 ?_
  refine fg_topi (y := xs (i + 3)) (by rw [nI_clamp (by omega)]) ?_
  refine lv_aload_n hx hb d_Law_law_243 rfl (lv_at hl 5 rfl) ?_
  refine lv_iload hx hb d_Law_law_244 (lv_at hl 1 rfl) ?_
  refine lv_iconst (v := 4) hx hb d_Law_law_246 (by decide) ?_
  refine lv_iadd hx hb d_Law_law_247 ?_
  refine fg_topi (y := nI (i + 4)) (nI_add i 4) ?_
  refine va_sld hx hb hXs hbl hbA hS (nI_in (c := i + 4) (N := L) (by omega) (by omega)) d_Law_law_248 ?_
  refine fg_topi (y := xs (i + 4)) (by rw [nI_clamp (by omega)]) ?_
  refine lw_Ri (r0 := rb) (R1 := R2) (me_runV (C := "FilterGuardModel") (As := [.int (xs (i + 1)), .int (xs (i + 2)), .int (xs (i + 3)), .int (xs (i + 4))]) (rest := []) ⟨hx, hb, hml, hown, hts⟩ (c_M_map l D bd ca NR R R2 rb 0 (xs (i + 1)) (xs (i + 2)) (xs (i + 3)) (xs (i + 4)) e2 hwr h10 _) rfl (by show fg_nm y_M_map 4; decide +kernel) u_2419 u_2420 u_2421 u_192 u_2422 ⟨Nat.le_of_ble_eq_true rfl, Nat.le_of_ble_eq_true rfl⟩ hX hz.2 hK (fk_Pr hP) (fk_Dr hD) hwr hS hA h10 (by decide) rfl rfl rfl hl.1 (Nat.le_of_ble_eq_true rfl) d_Law_law_249 (by exact lw_f2 hfit)) hP hD hK hS hA (fun H locs hw hP hD hS => ?_)
  refine W.widen (k := cells1) (n := slots1) (Nat.le_refl _) (Nat.le_refl _) ?_
  have hwr := hw.1
  refine lv_istore (lv' := [(6, .int rb), (5, .int 0), (4, .int (nI i)), (3, .ref (ad1 16 jo)), (2, .ref (bd 1 0)), (1, .ref (ad1 0 0)), (0, .ref b)]) hx hb d_Law_law_252 hl (by decide) rfl (fun ls hl => ?_)
  refine lv_aload_n hx hb d_Law_law_254 rfl (lv_at hl 4 rfl) ?_
  refine lw_Ri (r0 := 0) (R1 := R1) (me_runV (C := "FilterGuardModel") (As := []) (rest := []) ⟨hx, hb, hml, hown, hts⟩ (c_M_thrown l D bd ca NR R2 R1 (0 : Int32) 0 e3 hwr h10 _) rfl (by show fg_nm y_M_thrown 0; decide +kernel) u_1967 u_1968 u_1969 u_192 u_1970 ⟨Nat.le_of_ble_eq_true rfl, Nat.le_of_ble_eq_true rfl⟩ hX hz.2 hK (fk_Pr hP) (fk_Dr hD) hwr hS hA h10 (by decide) rfl rfl rfl hl.1 (Nat.le_of_ble_eq_true rfl) d_Law_law_255 (by exact lw_f2 hfit)) hP hD hK hS hA (fun H locs hw hP hD hS => ?_)
  refine W.widen (k := cells1) (n := slots1) (Nat.le_refl _) (Nat.le_refl _) ?_
  have hwr := hw.1
  refine lv_iload hx hb d_Law_law_258 (lv_at hl 1 rfl) ?_
  refine lv_icmp_eq (tgt := 265) hx hb d_Law_law_260 (by decide) (fun c9 => ?_) (fun c9 => absurd (by decide) c9)
  refine lv_iload hx hb d_Law_law_265 (lv_at hl 1 rfl) ?_
  refine lv_if_ne (tgt := 282) hx hb d_Law_law_267 (by decide) (fun c9 => absurd (by decide) c9) (fun c9 => ?_)
  refine lv_aload_n hx hb d_Law_law_270 rfl (lv_at hl 3 rfl) ?_
  refine lv_iconst (v := 0) hx hb d_Law_law_271 (by decide) ?_
  have hz9 : 0 < mZ M1 16 jo := hout
  refine me_lald hx hb hK (fk_Pl hP) hwf hjo (me_in (i := (0 : Int32)) (k := 0) (by decide) (by decide) hz9) d_Law_law_272 ?_
  refine fg_topl (y := mL M1 16 jo 0) (congrArg _ (by decide)) ?_
  refine lv_iload hx hb d_Law_law_273 (lv_at hl 0 rfl) ?_
  refine lv_i2l (v := rb.toInt64) hx hb d_Law_law_275 rfl ?_
  refine W.lcmp hx hb d_Law_law_276 ?_
  refine fg_topi (y := 0) ((lg_cmp_eq _ _).mpr hob) ?_
  refine lv_if_eq (tgt := 282) hx hb d_Law_law_277 (by decide) (fun c9 => ?_) (fun c9 => absurd (by decide) c9)
  refine lv_goto (tgt := 1029) hx hb d_Law_law_282 (by decide) ?_
  exact kk ad1 N1 _ _ _ _ _ hNN hwf hwr ⟨hok.2.2.1, hok.2.2.2.1⟩ hP hD hS (lv_sub hl [2, 3, 4, 5, 6] rfl) (by have := hok.1; omega) (by have := hok.2.1; omega)
set_option maxHeartbeats 4000000 in
set_option maxRecDepth 100000 in
theorem law_1_1 {p : Program} {l : Launch} {e : Env} {s : Jvm.State} {m : MethodId} {below : List Frame} {meth : Method} {c : Code} {b L i : Nat} {xs : Nat → Int32} {A : Nat → Prop} {D : va_G} {ca : Nat → ClassId} {ad bd : Nat → Nat → Nat} {N NR : Nat → Nat} {M M1 R R1 : me_M} {jo : Nat} {H : Heap} {locs : List Loc} {ls : Array Slot} {cells slots : Nat} {Q : Jvm.State → Prop} {R2 : me_M} {rb : Int32} (hl9 : l.stackTraces = false) (hx : p.tables.exec = Jvm.exec) (hb : c.code = code) (hml : c.maxLocals = 8) (hown : s.vm.findClass "FilterGuardLaw" = some m.cls) (hts : ∀ w ∈ fg_g, w.before #[Value.ref b] s = true) (hX : fg_X s) (hz : fg_Z A s s.heap) (hy : fg_Y s) (hXs : va_X b L xs s s.heap) (hbl : b < s.heap.size) (hbA : ¬ A b) (hA : ∀ q : Nat, s.heap.size ≤ q → A q) (hK : va_K D classes (me_T ca) s) (hL : L ≤ 3072) (hi : i + 6 ≤ L) (hwf : me_wf N M) (hwr : me_wf NR R) (hcl : me_cN N ≤ me_CL ∧ me_sN N ≤ me_SL) (h00 : 0 < N 0) (h10 : 0 < NR 1) (hjo : jo < N 16) (hP : va_P D classes (me_W ad ca M ++ me_W bd ca R) H) (hD : va_D A (me_W ad ca M ++ me_W bd ca R)) (hS : va_S A s.heap H locs) (hl : lv_has ls 8 [(4, .int (nI i)), (3, .ref (ad 16 jo)), (2, .ref (bd 1 0)), (1, .ref (ad 0 0)), (0, .ref b)]) (hfit : cells + (me_CL - me_cN N) + 8 ≤ 601024 ∧ slots + (me_SL - me_sN N) + 48 ≤ 7293034) (e1 : fT1_G_map M 0 (xs (i + 1)) (xs (i + 2)) (xs (i + 3)) (xs (i + 4)) = some M1) (e2 : f_M_map R 0 (xs (i + 1)) (xs (i + 2)) (xs (i + 3)) (xs (i + 4)) = some (R2, rb)) (e3 : f_M_thrown R2 0 = some (R1, 1)) (kk : ∀ (ad1 : Nat → Nat → Nat) (N1 : Nat → Nat) (H1 : Heap) (locs1 : List Loc) (ls1 : Array Slot) (cells1 slots1 : Nat), (∀ a, N a ≤ N1 a) → me_wf N1 M1 → me_wf NR R1 → (me_cN N1 ≤ me_CL ∧ me_sN N1 ≤ me_SL) → va_P D classes (me_W ad1 ca M1 ++ me_W bd ca R1) H1 → va_D A (me_W ad1 ca M1 ++ me_W bd ca R1) → va_S A s.heap H1 locs1 → lv_has ls1 8 [(4, .int (nI i)), (3, .ref (ad1 16 jo)), (2, .ref (bd 1 0)), (1, .ref (ad1 0 0)), (0, .ref b)] → cells1 + me_cN N ≤ cells + me_cN N1 + 1 → slots1 + me_sN N ≤ slots + me_sN N1 + 6 → W p l e room_1 s m #[Value.ref b] below meth c H1 locs1 cells1 slots1 Q (F0 m 1029 ls1 [])) : W p l e room_1 s m #[Value.ref b] below meth c H locs cells slots Q (F0 m 193 ls []) := by
  refine lv_aload_n hx hb d_Law_law_193 rfl (lv_at hl 3 rfl) ?_
  refine lv_aload_n hx hb d_Law_law_194 rfl (lv_at hl 4 rfl) ?_
  refine lv_iload hx hb d_Law_law_195 (lv_at hl 0 rfl) ?_
  refine lv_iconst (v := 1) hx hb d_Law_law_197 (by decide) ?_
  refine lv_iadd hx hb d_Law_law_198 ?_
  refine fg_topi (y := nI (i + 1)) (nI_add i 1) ?_
  refine va_sld hx hb hXs hbl hbA hS (nI_in (c := i + 1) (N := L) (by omega) (by omega)) d_Law_law_199 ?_
  refine fg_topi (y := xs (i + 1)) (by rw [nI_clamp (by omega)]) ?_
  refine lv_aload_n hx hb d_Law_law_200 rfl (lv_at hl 4 rfl) ?_
  refine lv_iload hx hb d_Law_law_201 (lv_at hl 0 rfl) ?_
  refine lv_iconst (v := 2) hx hb d_Law_law_203 (by decide) ?_
  refine lv_iadd hx hb d_Law_law_204 ?_
  refine fg_topi (y := nI (i + 2)) (nI_add i 2) ?_
  refine va_sld hx hb hXs hbl hbA hS (nI_in (c := i + 2) (N := L) (by omega) (by omega)) d_Law_law_205 ?_
  refine fg_topi (y := xs (i + 2)) (by rw [nI_clamp (by omega)]) ?_
  refine lv_aload_n hx hb d_Law_law_206 rfl (lv_at hl 4 rfl) ?_
  refine lv_iload hx hb d_Law_law_207 (lv_at hl 0 rfl) ?_
  refine lv_iconst (v := 3) hx hb d_Law_law_209 (by decide) ?_
  refine lv_iadd hx hb d_Law_law_210 ?_
  refine fg_topi (y := nI (i + 3)) (nI_add i 3) ?_
  refine va_sld hx hb hXs hbl hbA hS (nI_in (c := i + 3) (N := L) (by omega) (by omega)) d_Law_law_211 ?_
  refine fg_topi (y := xs (i + 3)) (by rw [nI_clamp (by omega)]) ?_
  refine lv_aload_n hx hb d_Law_law_212 rfl (lv_at hl 4 rfl) ?_
  refine lv_iload hx hb d_Law_law_213 (lv_at hl 0 rfl) ?_
  refine lv_iconst (v := 4) hx hb d_Law_law_215 (by decide) ?_
  refine lv_iadd hx hb d_Law_law_216 ?_
  refine fg_topi (y := nI (i + 4)) (nI_add i 4) ?_
  refine va_sld hx hb hXs hbl hbA hS (nI_in (c := i + 4) (N := L) (by omega) (by omega)) d_Law_law_217 ?_
  refine fg_topi (y := xs (i + 4)) (by rw [nI_clamp (by omega)]) ?_
  refine lv_aload_n hx hb d_Law_law_218 rfl (lv_at hl 1 rfl) ?_
  refine lw_Mi (r0 := 1) (M1 := M1) (al_runSH (As := [.ref (ad 0 0), .int (xs (i + 1)), .int (xs (i + 2)), .int (xs (i + 3)), .int (xs (i + 4)), .ref (ad 16 jo)]) (rest := []) ⟨hx, hb, hml, hown, hts⟩ (cH1_Law_map l hl9 D ad ca N M M1 0 (xs (i + 1)) (xs (i + 2)) (xs (i + 3)) (xs (i + 4)) jo e1 hwf h00 hjo _) (by show fg_nm y_Law_map 6; decide +kernel) u_803 u_804 u_180 u_805 ⟨Nat.le_of_ble_eq_true rfl, Nat.le_of_ble_eq_true rfl⟩ hX (fk_Pl hP) hK (fk_Dl hD) hz hy hS hA rfl hl.1 (Nat.le_of_ble_eq_true rfl) d_Law_law_219 (by exact lw_f1 hfit)) hP hD hK hS hA (fun H locs hw hP hD hS => ?_)
  obtain ⟨cells0, hc0⟩ : ∃ z, z = cells := ⟨_, rfl⟩
  obtain ⟨slots0, hs0⟩ : ∃ z, z = slots := ⟨_, rfl⟩
  refine W.widen (k := cells + 1) (n := slots + 6) (Nat.le_refl _) (Nat.le_refl _) ?_
  have hwf := hw
  have hfit := lw_ft hfit
  generalize hce : cells + 1 = cells1 at hfit ⊢
  generalize hse : slots + 6 = slots1 at hfit ⊢
  refine lv_istore (lv' := [(5, .int 1), (4, .int (nI i)), (3, .ref (ad 16 jo)), (2, .ref (bd 1 0)), (1, .ref (ad 0 0)), (0, .ref b)]) hx hb d_Law_law_222 hl (by decide) rfl (fun ls hl => ?_)
  refine lv_aload_n hx hb d_Law_law_224 rfl (lv_at hl 3 rfl) ?_
  refine lv_aload_n hx hb d_Law_law_225 rfl (lv_at hl 5 rfl) ?_
  refine lv_iload hx hb d_Law_law_226 (lv_at hl 1 rfl) ?_
  refine lv_iconst (v := 1) hx hb d_Law_law_228 (by decide) ?_
  refine lv_iadd hx hb d_Law_law_229 ?_
  refine fg_topi (y := nI (i + 1)) (nI_add i 1) ?_
  refine va_sld hx hb hXs hbl hbA hS (nI_in (c := i + 1) (N := L) (by omega) (by omega)) d_Law_law_230 ?_
  refine fg_topi (y := xs (i + 1)) (by rw [nI_clamp (by omega)]) ?_
  refine lv_aload_n hx hb d_Law_law_231 rfl (lv_at hl 5 rfl) ?_
  refine lv_iload hx hb d_Law_law_232 (lv_at hl 1 rfl) ?_
  refine lv_iconst (v := 2) hx hb d_Law_law_234 (by decide) ?_
  refine lv_iadd hx hb d_Law_law_235 ?_
  refine fg_topi (y := nI (i + 2)) (nI_add i 2) ?_
  refine va_sld hx hb hXs hbl hbA hS (nI_in (c := i + 2) (N := L) (by omega) (by omega)) d_Law_law_236 ?_
  refine fg_topi (y := xs (i + 2)) (by rw [nI_clamp (by omega)]) ?_
  refine lv_aload_n hx hb d_Law_law_237 rfl (lv_at hl 5 rfl) ?_
  refine lv_iload hx hb d_Law_law_238 (lv_at hl 1 rfl) ?_
  refine lv_iconst (v := 3) hx hb d_Law_law_240 (by decide) ?_
  refine lv_iadd hx hb d_Law_law_241 ?_
  refine fg_topi (y := nI (i + 3)) (nI_add i 3) ?_
  refine va_sld hx hb hXs hbl hbA hS (nI_in (c := i + 3) (N := L) (by omega) (by omega)) d_Law_law_242 ?_
  refine fg_topi (y := xs (i + 3)) (by rw [nI_clamp (by omega)]) ?_
  refine lv_aload_n hx hb d_Law_law_243 rfl (lv_at hl 5 rfl) ?_
  refine lv_iload hx hb d_Law_law_244 (lv_at hl 1 rfl) ?_
  refine lv_iconst (v := 4) hx hb d_Law_law_246 (by decide) ?_
  refine lv_iadd hx hb d_Law_law_247 ?_
  refine fg_topi (y := nI (i + 4)) (nI_add i 4) ?_
  refine va_sld hx hb hXs hbl hbA hS (nI_in (c := i + 4) (N := L) (by omega) (by omega)) d_Law_law_248 ?_
  refine fg_topi (y := xs (i + 4)) (by rw [nI_clamp (by omega)]) ?_
  refine lw_Ri (r0 := rb) (R1 := R2) (me_runV (C := "FilterGuardModel") (As := [.int (xs (i + 1)), .int (xs (i + 2)), .int (xs (i + 3)), .int (xs (i + 4))]) (rest := []) ⟨hx, hb, hml, hown, hts⟩ (c_M_map l D bd ca NR R R2 rb 0 (xs (i + 1)) (xs (i + 2)) (xs (i + 3)) (xs (i + 4)) e2 hwr h10 _) rfl (by show fg_nm y_M_map 4; decide +kernel) u_2419 u_2420 u_2421 u_192 u_2422 ⟨Nat.le_of_ble_eq_true rfl, Nat.le_of_ble_eq_true rfl⟩ hX hz.2 hK (fk_Pr hP) (fk_Dr hD) hwr hS hA h10 (by decide) rfl rfl rfl hl.1 (Nat.le_of_ble_eq_true rfl) d_Law_law_249 (by exact lw_f2 hfit)) hP hD hK hS hA (fun H locs hw hP hD hS => ?_)
  refine W.widen (k := cells1) (n := slots1) (Nat.le_refl _) (Nat.le_refl _) ?_
  have hwr := hw.1
  refine lv_istore (lv' := [(6, .int rb), (5, .int 1), (4, .int (nI i)), (3, .ref (ad 16 jo)), (2, .ref (bd 1 0)), (1, .ref (ad 0 0)), (0, .ref b)]) hx hb d_Law_law_252 hl (by decide) rfl (fun ls hl => ?_)
  refine lv_aload_n hx hb d_Law_law_254 rfl (lv_at hl 4 rfl) ?_
  refine lw_Ri (r0 := 1) (R1 := R1) (me_runV (C := "FilterGuardModel") (As := []) (rest := []) ⟨hx, hb, hml, hown, hts⟩ (c_M_thrown l D bd ca NR R2 R1 (1 : Int32) 0 e3 hwr h10 _) rfl (by show fg_nm y_M_thrown 0; decide +kernel) u_1967 u_1968 u_1969 u_192 u_1970 ⟨Nat.le_of_ble_eq_true rfl, Nat.le_of_ble_eq_true rfl⟩ hX hz.2 hK (fk_Pr hP) (fk_Dr hD) hwr hS hA h10 (by decide) rfl rfl rfl hl.1 (Nat.le_of_ble_eq_true rfl) d_Law_law_255 (by exact lw_f2 hfit)) hP hD hK hS hA (fun H locs hw hP hD hS => ?_)
  refine W.widen (k := cells1) (n := slots1) (Nat.le_refl _) (Nat.le_refl _) ?_
  have hwr := hw.1
  refine lv_iload hx hb d_Law_law_258 (lv_at hl 1 rfl) ?_
  refine lv_icmp_eq (tgt := 265) hx hb d_Law_law_260 (by decide) (fun c9 => ?_) (fun c9 => absurd (by decide) c9)
  refine lv_iload hx hb d_Law_law_265 (lv_at hl 1 rfl) ?_
  refine lv_if_ne (tgt := 282) hx hb d_Law_law_267 (by decide) (fun c9 => ?_) (fun c9 => absurd c9 (by decide))
  refine lv_goto (tgt := 1029) hx hb d_Law_law_282 (by decide) ?_
  exact kk ad N _ _ _ _ _ (fun _ => Nat.le_refl _) hwf hwr hcl hP hD hS (lv_sub hl [2, 3, 4, 5, 6] rfl) (by omega) (by omega)
set_option maxHeartbeats 4000000 in
set_option maxRecDepth 100000 in
theorem law_1_2 {p : Program} {l : Launch} {e : Env} {s : Jvm.State} {m : MethodId} {below : List Frame} {meth : Method} {c : Code} {b L i : Nat} {xs : Nat → Int32} {A : Nat → Prop} {D : va_G} {ca : Nat → ClassId} {ad bd : Nat → Nat → Nat} {N NR : Nat → Nat} {M M1 R R1 : me_M} {jo : Nat} {H : Heap} {locs : List Loc} {ls : Array Slot} {cells slots : Nat} {Q : Jvm.State → Prop} {R2 : me_M} {rb : Int32} (hl9 : l.stackTraces = false) (hx : p.tables.exec = Jvm.exec) (hb : c.code = code) (hml : c.maxLocals = 8) (hown : s.vm.findClass "FilterGuardLaw" = some m.cls) (hts : ∀ w ∈ fg_g, w.before #[Value.ref b] s = true) (hX : fg_X s) (hz : fg_Z A s s.heap) (hy : fg_Y s) (hXs : va_X b L xs s s.heap) (hbl : b < s.heap.size) (hbA : ¬ A b) (hA : ∀ q : Nat, s.heap.size ≤ q → A q) (hK : va_K D classes (me_T ca) s) (hL : L ≤ 3072) (hi : i + 6 ≤ L) (hwf : me_wf N M) (hwr : me_wf NR R) (hcl : me_cN N ≤ me_CL ∧ me_sN N ≤ me_SL) (h00 : 0 < N 0) (h10 : 0 < NR 1) (hjo : jo < N 16) (hP : va_P D classes (me_W ad ca M ++ me_W bd ca R) H) (hD : va_D A (me_W ad ca M ++ me_W bd ca R)) (hS : va_S A s.heap H locs) (hl : lv_has ls 8 [(4, .int (nI i)), (3, .ref (ad 16 jo)), (2, .ref (bd 1 0)), (1, .ref (ad 0 0)), (0, .ref b)]) (hfit : cells + (me_CL - me_cN N) + 8 ≤ 601024 ∧ slots + (me_SL - me_sN N) + 48 ≤ 7293034) (e1 : fT2_G_map M 0 (xs (i + 1)) (xs (i + 2)) (xs (i + 3)) (xs (i + 4)) = some M1) (e2 : f_M_map R 0 (xs (i + 1)) (xs (i + 2)) (xs (i + 3)) (xs (i + 4)) = some (R2, rb)) (e3 : f_M_thrown R2 0 = some (R1, 2)) (kk : ∀ (ad1 : Nat → Nat → Nat) (N1 : Nat → Nat) (H1 : Heap) (locs1 : List Loc) (ls1 : Array Slot) (cells1 slots1 : Nat), (∀ a, N a ≤ N1 a) → me_wf N1 M1 → me_wf NR R1 → (me_cN N1 ≤ me_CL ∧ me_sN N1 ≤ me_SL) → va_P D classes (me_W ad1 ca M1 ++ me_W bd ca R1) H1 → va_D A (me_W ad1 ca M1 ++ me_W bd ca R1) → va_S A s.heap H1 locs1 → lv_has ls1 8 [(4, .int (nI i)), (3, .ref (ad1 16 jo)), (2, .ref (bd 1 0)), (1, .ref (ad1 0 0)), (0, .ref b)] → cells1 + me_cN N ≤ cells + me_cN N1 + 1 → slots1 + me_sN N ≤ slots + me_sN N1 + 6 → W p l e room_1 s m #[Value.ref b] below meth c H1 locs1 cells1 slots1 Q (F0 m 1029 ls1 [])) : W p l e room_1 s m #[Value.ref b] below meth c H locs cells slots Q (F0 m 193 ls []) := by
  refine lv_aload_n hx hb d_Law_law_193 rfl (lv_at hl 3 rfl) ?_
  refine lv_aload_n hx hb d_Law_law_194 rfl (lv_at hl 4 rfl) ?_
  refine lv_iload hx hb d_Law_law_195 (lv_at hl 0 rfl) ?_
  refine lv_iconst (v := 1) hx hb d_Law_law_197 (by decide) ?_
  refine lv_iadd hx hb d_Law_law_198 ?_
  refine fg_topi (y := nI (i + 1)) (nI_add i 1) ?_
  refine va_sld hx hb hXs hbl hbA hS (nI_in (c := i + 1) (N := L) (by omega) (by omega)) d_Law_law_199 ?_
  refine fg_topi (y := xs (i + 1)) (by rw [nI_clamp (by omega)]) ?_
  refine lv_aload_n hx hb d_Law_law_200 rfl (lv_at hl 4 rfl) ?_
  refine lv_iload hx hb d_Law_law_201 (lv_at hl 0 rfl) ?_
  refine lv_iconst (v := 2) hx hb d_Law_law_203 (by decide) ?_
  refine lv_iadd hx hb d_Law_law_204 ?_
  refine fg_topi (y := nI (i + 2)) (nI_add i 2) ?_
  refine va_sld hx hb hXs hbl hbA hS (nI_in (c := i + 2) (N := L) (by omega) (by omega)) d_Law_law_205 ?_
  refine fg_topi (y := xs (i + 2)) (by rw [nI_clamp (by omega)]) ?_
  refine lv_aload_n hx hb d_Law_law_206 rfl (lv_at hl 4 rfl) ?_
  refine lv_iload hx hb d_Law_law_207 (lv_at hl 0 rfl) ?_
  refine lv_iconst (v := 3) hx hb d_Law_law_209 (by decide) ?_
  refine lv_iadd hx hb d_Law_law_210 ?_
  refine fg_topi (y := nI (i + 3)) (nI_add i 3) ?_
  refine va_sld hx hb hXs hbl hbA hS (nI_in (c := i + 3) (N := L) (by omega) (by omega)) d_Law_law_211 ?_
  refine fg_topi (y := xs (i + 3)) (by rw [nI_clamp (by omega)]) ?_
  refine lv_aload_n hx hb d_Law_law_212 rfl (lv_at hl 4 rfl) ?_
  refine lv_iload hx hb d_Law_law_213 (lv_at hl 0 rfl) ?_
  refine lv_iconst (v := 4) hx hb d_Law_law_215 (by decide) ?_
  refine lv_iadd hx hb d_Law_law_216 ?_
  refine fg_topi (y := nI (i + 4)) (nI_add i 4) ?_
  refine va_sld hx hb hXs hbl hbA hS (nI_in (c := i + 4) (N := L) (by omega) (by omega)) d_Law_law_217 ?_
  refine fg_topi (y := xs (i + 4)) (by rw [nI_clamp (by omega)]) ?_
  refine lv_aload_n hx hb d_Law_law_218 rfl (lv_at hl 1 rfl) ?_
  refine lw_Mi (r0 := 2) (M1 := M1) (al_runSH (As := [.ref (ad 0 0), .int (xs (i + 1)), .int (xs (i + 2)), .int (xs (i + 3)), .int (xs (i + 4)), .ref (ad 16 jo)]) (rest := []) ⟨hx, hb, hml, hown, hts⟩ (cH2_Law_map l hl9 D ad ca N M M1 0 (xs (i + 1)) (xs (i + 2)) (xs (i + 3)) (xs (i + 4)) jo e1 hwf h00 hjo _) (by show fg_nm y_Law_map 6; decide +kernel) u_803 u_804 u_180 u_805 ⟨Nat.le_of_ble_eq_true rfl, Nat.le_of_ble_eq_true rfl⟩ hX (fk_Pl hP) hK (fk_Dl hD) hz hy hS hA rfl hl.1 (Nat.le_of_ble_eq_true rfl) d_Law_law_219 (by exact lw_f1 hfit)) hP hD hK hS hA (fun H locs hw hP hD hS => ?_)
  obtain ⟨cells0, hc0⟩ : ∃ z, z = cells := ⟨_, rfl⟩
  obtain ⟨slots0, hs0⟩ : ∃ z, z = slots := ⟨_, rfl⟩
  refine W.widen (k := cells + 1) (n := slots + 6) (Nat.le_refl _) (Nat.le_refl _) ?_
  have hwf := hw
  have hfit := lw_ft hfit
  generalize hce : cells + 1 = cells1 at hfit ⊢
  generalize hse : slots + 6 = slots1 at hfit ⊢
  refine lv_istore (lv' := [(5, .int 2), (4, .int (nI i)), (3, .ref (ad 16 jo)), (2, .ref (bd 1 0)), (1, .ref (ad 0 0)), (0, .ref b)]) hx hb d_Law_law_222 hl (by decide) rfl (fun ls hl => ?_)
  refine lv_aload_n hx hb d_Law_law_224 rfl (lv_at hl 3 rfl) ?_
  refine lv_aload_n hx hb d_Law_law_225 rfl (lv_at hl 5 rfl) ?_
  refine lv_iload hx hb d_Law_law_226 (lv_at hl 1 rfl) ?_
  refine lv_iconst (v := 1) hx hb d_Law_law_228 (by decide) ?_
  refine lv_iadd hx hb d_Law_law_229 ?_
  refine fg_topi (y := nI (i + 1)) (nI_add i 1) ?_
  refine va_sld hx hb hXs hbl hbA hS (nI_in (c := i + 1) (N := L) (by omega) (by omega)) d_Law_law_230 ?_
  refine fg_topi (y := xs (i + 1)) (by rw [nI_clamp (by omega)]) ?_
  refine lv_aload_n hx hb d_Law_law_231 rfl (lv_at hl 5 rfl) ?_
  refine lv_iload hx hb d_Law_law_232 (lv_at hl 1 rfl) ?_
  refine lv_iconst (v := 2) hx hb d_Law_law_234 (by decide) ?_
  refine lv_iadd hx hb d_Law_law_235 ?_
  refine fg_topi (y := nI (i + 2)) (nI_add i 2) ?_
  refine va_sld hx hb hXs hbl hbA hS (nI_in (c := i + 2) (N := L) (by omega) (by omega)) d_Law_law_236 ?_
  refine fg_topi (y := xs (i + 2)) (by rw [nI_clamp (by omega)]) ?_
  refine lv_aload_n hx hb d_Law_law_237 rfl (lv_at hl 5 rfl) ?_
  refine lv_iload hx hb d_Law_law_238 (lv_at hl 1 rfl) ?_
  refine lv_iconst (v := 3) hx hb d_Law_law_240 (by decide) ?_
  refine lv_iadd hx hb d_Law_law_241 ?_
  refine fg_topi (y := nI (i + 3)) (nI_add i 3) ?_
  refine va_sld hx hb hXs hbl hbA hS (nI_in (c := i + 3) (N := L) (by omega) (by omega)) d_Law_law_242 ?_
  refine fg_topi (y := xs (i + 3)) (by rw [nI_clamp (by omega)]) ?_
  refine lv_aload_n hx hb d_Law_law_243 rfl (lv_at hl 5 rfl) ?_
  refine lv_iload hx hb d_Law_law_244 (lv_at hl 1 rfl) ?_
  refine lv_iconst (v := 4) hx hb d_Law_law_246 (by decide) ?_
  refine lv_iadd hx hb d_Law_law_247 ?_
  refine fg_topi (y := nI (i + 4)) (nI_add i 4) ?_
  refine va_sld hx hb hXs hbl hbA hS (nI_in (c := i + 4) (N := L) (by omega) (by omega)) d_Law_law_248 ?_
  refine fg_topi (y := xs (i + 4)) (by rw [nI_clamp (by omega)]) ?_
  refine lw_Ri (r0 := rb) (R1 := R2) (me_runV (C := "FilterGuardModel") (As := [.int (xs (i + 1)), .int (xs (i + 2)), .int (xs (i + 3)), .int (xs (i + 4))]) (rest := []) ⟨hx, hb, hml, hown, hts⟩ (c_M_map l D bd ca NR R R2 rb 0 (xs (i + 1)) (xs (i + 2)) (xs (i + 3)) (xs (i + 4)) e2 hwr h10 _) rfl (by show fg_nm y_M_map 4; decide +kernel) u_2419 u_2420 u_2421 u_192 u_2422 ⟨Nat.le_of_ble_eq_true rfl, Nat.le_of_ble_eq_true rfl⟩ hX hz.2 hK (fk_Pr hP) (fk_Dr hD) hwr hS hA h10 (by decide) rfl rfl rfl hl.1 (Nat.le_of_ble_eq_true rfl) d_Law_law_249 (by exact lw_f2 hfit)) hP hD hK hS hA (fun H locs hw hP hD hS => ?_)
  refine W.widen (k := cells1) (n := slots1) (Nat.le_refl _) (Nat.le_refl _) ?_
  have hwr := hw.1
  refine lv_istore (lv' := [(6, .int rb), (5, .int 2), (4, .int (nI i)), (3, .ref (ad 16 jo)), (2, .ref (bd 1 0)), (1, .ref (ad 0 0)), (0, .ref b)]) hx hb d_Law_law_252 hl (by decide) rfl (fun ls hl => ?_)
  refine lv_aload_n hx hb d_Law_law_254 rfl (lv_at hl 4 rfl) ?_
  refine lw_Ri (r0 := 2) (R1 := R1) (me_runV (C := "FilterGuardModel") (As := []) (rest := []) ⟨hx, hb, hml, hown, hts⟩ (c_M_thrown l D bd ca NR R2 R1 (2 : Int32) 0 e3 hwr h10 _) rfl (by show fg_nm y_M_thrown 0; decide +kernel) u_1967 u_1968 u_1969 u_192 u_1970 ⟨Nat.le_of_ble_eq_true rfl, Nat.le_of_ble_eq_true rfl⟩ hX hz.2 hK (fk_Pr hP) (fk_Dr hD) hwr hS hA h10 (by decide) rfl rfl rfl hl.1 (Nat.le_of_ble_eq_true rfl) d_Law_law_255 (by exact lw_f2 hfit)) hP hD hK hS hA (fun H locs hw hP hD hS => ?_)
  refine W.widen (k := cells1) (n := slots1) (Nat.le_refl _) (Nat.le_refl _) ?_
  have hwr := hw.1
  refine lv_iload hx hb d_Law_law_258 (lv_at hl 1 rfl) ?_
  refine lv_icmp_eq (tgt := 265) hx hb d_Law_law_260 (by decide) (fun c9 => ?_) (fun c9 => absurd (by decide) c9)
  refine lv_iload hx hb d_Law_law_265 (lv_at hl 1 rfl) ?_
  refine lv_if_ne (tgt := 282) hx hb d_Law_law_267 (by decide) (fun c9 => ?_) (fun c9 => absurd c9 (by decide))
  refine lv_goto (tgt := 1029) hx hb d_Law_law_282 (by decide) ?_
  exact kk ad N _ _ _ _ _ (fun _ => Nat.le_refl _) hwf hwr hcl hP hD hS (lv_sub hl [2, 3, 4, 5, 6] rfl) (by omega) (by omega)
theorem d_Law_law_285 : decode code 285 = .ok (.aload_n 1, 1) := by decide +kernel
theorem d_Law_law_286 : decode code 286 = .ok (.aload_n 0, 1) := by decide +kernel
theorem d_Law_law_287 : decode code 287 = .ok (.iload 4, 2) := by decide +kernel
theorem d_Law_law_289 : decode code 289 = .ok (.iconst 1, 1) := by decide +kernel
theorem d_Law_law_290 : decode code 290 = .ok (.iadd, 1) := by decide +kernel
theorem d_Law_law_291 : decode code 291 = .ok (.iaload, 1) := by decide +kernel
theorem d_Law_law_292 : decode code 292 = .ok (.aload_n 0, 1) := by decide +kernel
theorem d_Law_law_293 : decode code 293 = .ok (.iload 4, 2) := by decide +kernel
theorem d_Law_law_295 : decode code 295 = .ok (.iconst 2, 1) := by decide +kernel
theorem d_Law_law_296 : decode code 296 = .ok (.iadd, 1) := by decide +kernel
theorem d_Law_law_297 : decode code 297 = .ok (.iaload, 1) := by decide +kernel
theorem d_Law_law_298 : decode code 298 = .ok (.aload_n 3, 1) := by decide +kernel
theorem d_Law_law_299 : decode code 299 = .ok (.invokestatic 68, 3) := by decide +kernel
theorem u_933 : Cond.methodLink "FilterGuardLaw" 68 ⟨"FilterGuardLaw", "program", "(LFilterGuard;II[J)I"⟩ ∈ fg_g := fg_in (List.mem_of_getElem? (i := 933) (by decide +kernel)) rfl
theorem u_935 : Cond.codeWith ⟨"FilterGuardLaw", "program", "(LFilterGuard;II[J)I"⟩ method_4_code 5 (some .int) [(0, 10, 13, 13)] ∈ fg_g := fg_in (List.mem_of_getElem? (i := 935) (by decide +kernel)) rfl
theorem u_934 : Cond.static ⟨"FilterGuardLaw", "program", "(LFilterGuard;II[J)I"⟩ ∈ fg_g := fg_in (List.mem_of_getElem? (i := 934) (by decide +kernel)) rfl
theorem d_Law_law_302 : decode code 302 = .ok (.istore 5, 2) := by decide +kernel
theorem d_Law_law_304 : decode code 304 = .ok (.aload_n 2, 1) := by decide +kernel
theorem d_Law_law_305 : decode code 305 = .ok (.aload_n 0, 1) := by decide +kernel
theorem d_Law_law_306 : decode code 306 = .ok (.iload 4, 2) := by decide +kernel
theorem d_Law_law_308 : decode code 308 = .ok (.iconst 1, 1) := by decide +kernel
theorem d_Law_law_309 : decode code 309 = .ok (.iadd, 1) := by decide +kernel
theorem d_Law_law_310 : decode code 310 = .ok (.iaload, 1) := by decide +kernel
theorem d_Law_law_311 : decode code 311 = .ok (.aload_n 0, 1) := by decide +kernel
theorem d_Law_law_312 : decode code 312 = .ok (.iload 4, 2) := by decide +kernel
theorem d_Law_law_314 : decode code 314 = .ok (.iconst 2, 1) := by decide +kernel
theorem d_Law_law_315 : decode code 315 = .ok (.iadd, 1) := by decide +kernel
theorem d_Law_law_316 : decode code 316 = .ok (.iaload, 1) := by decide +kernel
theorem d_Law_law_317 : decode code 317 = .ok (.invokevirtual 71, 3) := by decide +kernel
theorem u_1971 : Cond.methodLink "FilterGuardLaw" 71 ⟨"FilterGuardModel", "program", "(II)I"⟩ ∈ fg_g := fg_in (List.mem_of_getElem? (i := 1971) (by decide +kernel)) rfl
theorem u_1974 : Cond.code ⟨"FilterGuardModel", "program", "(II)I"⟩ prog_14_method_108_code 8 (some .int) ∈ fg_g := fg_in (List.mem_of_getElem? (i := 1974) (by decide +kernel)) rfl
theorem u_1972 : Cond.instanceMethod ⟨"FilterGuardModel", "program", "(II)I"⟩ ∈ fg_g := fg_in (List.mem_of_getElem? (i := 1972) (by decide +kernel)) rfl
theorem u_1973 : Cond.selects "FilterGuardModel" ⟨"FilterGuardModel", "program", "(II)I"⟩ ⟨"FilterGuardModel", "program", "(II)I"⟩ ∈ fg_g := fg_in (List.mem_of_getElem? (i := 1973) (by decide +kernel)) rfl
theorem d_Law_law_320 : decode code 320 = .ok (.istore 6, 2) := by decide +kernel
theorem d_Law_law_322 : decode code 322 = .ok (.aload_n 2, 1) := by decide +kernel
theorem d_Law_law_323 : decode code 323 = .ok (.invokevirtual 64, 3) := by decide +kernel
theorem d_Law_law_326 : decode code 326 = .ok (.iload 5, 2) := by decide +kernel
theorem d_Law_law_328 : decode code 328 = .ok (.if_icmp .eq 5, 3) := by decide +kernel
theorem d_Law_law_333 : decode code 333 = .ok (.iload 5, 2) := by decide +kernel
theorem d_Law_law_335 : decode code 335 = .ok (.ifCond .ne 15, 3) := by decide +kernel
theorem d_Law_law_338 : decode code 338 = .ok (.aload_n 3, 1) := by decide +kernel
theorem d_Law_law_339 : decode code 339 = .ok (.iconst 0, 1) := by decide +kernel
theorem d_Law_law_340 : decode code 340 = .ok (.laload, 1) := by decide +kernel
theorem d_Law_law_341 : decode code 341 = .ok (.iload 6, 2) := by decide +kernel
theorem d_Law_law_343 : decode code 343 = .ok (.i2l, 1) := by decide +kernel
theorem d_Law_law_344 : decode code 344 = .ok (.lcmp, 1) := by decide +kernel
theorem d_Law_law_345 : decode code 345 = .ok (.ifCond .eq 5, 3) := by decide +kernel
theorem d_Law_law_350 : decode code 350 = .ok (.goto 679, 3) := by decide +kernel
set_option maxHeartbeats 4000000 in
set_option maxRecDepth 100000 in
theorem law_2_0 {p : Program} {l : Launch} {e : Env} {s : Jvm.State} {m : MethodId} {below : List Frame} {meth : Method} {c : Code} {b L i : Nat} {xs : Nat → Int32} {A : Nat → Prop} {D : va_G} {ca : Nat → ClassId} {ad bd : Nat → Nat → Nat} {N NR : Nat → Nat} {M M1 R R1 : me_M} {jo : Nat} {H : Heap} {locs : List Loc} {ls : Array Slot} {cells slots : Nat} {Q : Jvm.State → Prop} {R2 : me_M} {rb : Int32} (hout : 0 < mZ M1 16 jo) (hl9 : l.stackTraces = false) (hx : p.tables.exec = Jvm.exec) (hb : c.code = code) (hml : c.maxLocals = 8) (hown : s.vm.findClass "FilterGuardLaw" = some m.cls) (hts : ∀ w ∈ fg_g, w.before #[Value.ref b] s = true) (hX : fg_X s) (hz : fg_Z A s s.heap) (hy : fg_Y s) (hXs : va_X b L xs s s.heap) (hbl : b < s.heap.size) (hbA : ¬ A b) (hA : ∀ q : Nat, s.heap.size ≤ q → A q) (hK : va_K D classes (me_T ca) s) (hL : L ≤ 3072) (hi : i + 6 ≤ L) (hwf : me_wf N M) (hwr : me_wf NR R) (hcl : me_cN N ≤ me_CL ∧ me_sN N ≤ me_SL) (h00 : 0 < N 0) (h10 : 0 < NR 1) (hjo : jo < N 16) (hP : va_P D classes (me_W ad ca M ++ me_W bd ca R) H) (hD : va_D A (me_W ad ca M ++ me_W bd ca R)) (hS : va_S A s.heap H locs) (hl : lv_has ls 8 [(4, .int (nI i)), (3, .ref (ad 16 jo)), (2, .ref (bd 1 0)), (1, .ref (ad 0 0)), (0, .ref b)]) (hfit : cells + (me_CL - me_cN N) + 8 ≤ 601024 ∧ slots + (me_SL - me_sN N) + 48 ≤ 7293034) (e1 : f_Law_program M 0 (xs (i + 1)) (xs (i + 2)) jo = some (M1, 0)) (e2 : f_M_program R 0 (xs (i + 1)) (xs (i + 2)) = some (R2, rb)) (e3 : f_M_thrown R2 0 = some (R1, 0)) (hob : mL M1 16 jo 0 = rb.toInt64) (kk : ∀ (ad1 : Nat → Nat → Nat) (N1 : Nat → Nat) (H1 : Heap) (locs1 : List Loc) (ls1 : Array Slot) (cells1 slots1 : Nat), (∀ a, N a ≤ N1 a) → me_wf N1 M1 → me_wf NR R1 → (me_cN N1 ≤ me_CL ∧ me_sN N1 ≤ me_SL) → va_P D classes (me_W ad1 ca M1 ++ me_W bd ca R1) H1 → va_D A (me_W ad1 ca M1 ++ me_W bd ca R1) → va_S A s.heap H1 locs1 → lv_has ls1 8 [(4, .int (nI i)), (3, .ref (ad1 16 jo)), (2, .ref (bd 1 0)), (1, .ref (ad1 0 0)), (0, .ref b)] → cells1 + me_cN N ≤ cells + me_cN N1 + 1 → slots1 + me_sN N ≤ slots + me_sN N1 + 6 → W p l e room_1 s m #[Value.ref b] below meth c H1 locs1 cells1 slots1 Q (F0 m 1029 ls1 [])) : W p l e room_1 s m #[Value.ref b] below meth c H locs cells slots Q (F0 m 285 ls []) := by
  refine lv_aload_n hx hb d_Law_law_285 rfl (lv_at hl 3 rfl) ?_
  refine lv_aload_n hx hb d_Law_law_286 rfl (lv_at hl 4 rfl) ?_
  refine lv_iload hx hb d_Law_law_287 (lv_at hl 0 rfl) ?_
  refine lv_iconst (v := 1) hx hb d_Law_law_289 (by decide) ?_
  refine lv_iadd hx hb d_Law_law_290 ?_
  refine fg_topi (y := nI (i + 1)) (nI_add i 1) ?_
  refine va_sld hx hb hXs hbl hbA hS (nI_in (c := i + 1) (N := L) (by omega) (by omega)) d_Law_law_291 ?_
  refine fg_topi (y := xs (i + 1)) (by rw [nI_clamp (by omega)]) ?_
  refine lv_aload_n hx hb d_Law_law_292 rfl (lv_at hl 4 rfl) ?_
  refine lv_iload hx hb d_Law_law_293 (lv_at hl 0 rfl) ?_
  refine lv_iconst (v := 2) hx hb d_Law_law_295 (by decide) ?_
  refine lv_iadd hx hb d_Law_law_296 ?_
  refine fg_topi (y := nI (i + 2)) (nI_add i 2) ?_
  refine va_sld hx hb hXs hbl hbA hS (nI_in (c := i + 2) (N := L) (by omega) (by omega)) d_Law_law_297 ?_
  refine fg_topi (y := xs (i + 2)) (by rw [nI_clamp (by omega)]) ?_
  refine lv_aload_n hx hb d_Law_law_298 rfl (lv_at hl 1 rfl) ?_
  refine lw_Mai (r0 := 0) (M1 := M1) (al_runSH (As := [.ref (ad 0 0), .int (xs (i + 1)), .int (xs (i + 2)), .ref (ad 16 jo)]) (rest := []) ⟨hx, hb, hml, hown, hts⟩ (c_Law_program l D ad ca N M M1 0 0 (xs (i + 1)) (xs (i + 2)) jo e1 hwf hcl h00 hjo _) (by show fg_nm y_Law_program 4; decide +kernel) u_933 u_934 u_180 u_935 ⟨Nat.le_of_ble_eq_true rfl, Nat.le_of_ble_eq_true rfl⟩ hX (fk_Pl hP) hK (fk_Dl hD) hz hy hS hA rfl hl.1 (Nat.le_of_ble_eq_true rfl) d_Law_law_299 (by exact lw_fa hfit)) hP hD hK hS hA (fun ad1 H locs hw hq9 hP hD hS => ?_)
  obtain ⟨hwf, hok, hext⟩ := hw
  obtain ⟨N1, hN1⟩ : ∃ z, z = mN M1 := ⟨_, rfl⟩
  rw [← hN1] at hwf hok ⊢
  have hl : lv_has ls 8 [(4, .int (nI i)), (3, .ref (ad1 16 jo)), (2, .ref (bd 1 0)), (1, .ref (ad1 0 0)), (0, .ref b)] := by rw [hext 16 jo hjo, hext 0 0 h00]; exact hl
  have hNN := hok.2.2.2.2
  have hjo : jo < N1 16 := Nat.lt_of_lt_of_le hjo (hNN 16)
  have h00 : 0 < N1 0 := Nat.lt_of_lt_of_le h00 (hNN 0)
  have hfit := lw_fg hfit hok
  generalize hce : cells + (me_cN N1 - me_cN N) = cells1 at hfit ⊢
  generalize hse : slots + (me_sN N1 - me_sN N) = slots1 at hfit ⊢
  refine lv_istore (lv' := [(5, .int 0), (4, .int (nI i)), (3, .ref (ad1 16 jo)), (2, .ref (bd 1 0)), (1, .ref (ad1 0 0)), (0, .ref b)]) hx hb d_Law_law_302 hl (by decide) rfl (fun ls hl => ?_)
  refine lv_aload_n hx hb d_Law_law_304 rfl (lv_at hl 3 rfl) ?_
  refine lv_aload_n hx hb d_Law_law_305 rfl (lv_at hl 5 rfl) ?_
  refine lv_iload hx hb d_Law_law_306 (lv_at hl 1 rfl) ?_
  refine lv_iconst (v := 1) hx hb d_Law_law_308 (by decide) ?_
  refine lv_iadd hx hb d_Law_law_309 ?_
  refine fg_topi (y := nI (i + 1)) (nI_add i 1) ?_
  refine va_sld hx hb hXs hbl hbA hS (nI_in (c := i + 1) (N := L) (by omega) (by omega)) d_Law_law_310 ?_
  refine fg_topi (y := xs (i + 1)) (by rw [nI_clamp (by omega)]) ?_
  refine lv_aload_n hx hb d_Law_law_311 rfl (lv_at hl 5 rfl) ?_
  refine lv_iload hx hb d_Law_law_312 (lv_at hl 1 rfl) ?_
  refine lv_iconst (v := 2) hx hb d_Law_law_314 (by decide) ?_
  refine lv_iadd hx hb d_Law_law_315 ?_
  refine fg_topi (y := nI (i + 2)) (nI_add i 2) ?_
  refine va_sld hx hb hXs hbl hbA hS (nI_in (c := i + 2) (N := L) (by omega) (by omega)) d_Law_law_316 ?_
  refine fg_topi (y := xs (i + 2)) (by rw [nI_clamp (by omega)]) ?_
  refine lw_Ri (r0 := rb) (R1 := R2) (me_runV (C := "FilterGuardModel") (As := [.int (xs (i + 1)), .int (xs (i + 2))]) (rest := []) ⟨hx, hb, hml, hown, hts⟩ (c_M_program l D bd ca NR R R2 rb 0 (xs (i + 1)) (xs (i + 2)) e2 hwr h10 _) rfl (by show fg_nm y_M_program 2; decide +kernel) u_1971 u_1972 u_1973 u_192 u_1974 ⟨Nat.le_of_ble_eq_true rfl, Nat.le_of_ble_eq_true rfl⟩ hX hz.2 hK (fk_Pr hP) (fk_Dr hD) hwr hS hA h10 (by decide) rfl rfl rfl hl.1 (Nat.le_of_ble_eq_true rfl) d_Law_law_317 (by exact lw_f2 hfit)) hP hD hK hS hA (fun H locs hw hP hD hS => ?_)
  refine W.widen (k := cells1) (n := slots1) (Nat.le_refl _) (Nat.le_refl _) ?_
  have hwr := hw.1
  refine lv_istore (lv' := [(6, .int rb), (5, .int 0), (4, .int (nI i)), (3, .ref (ad1 16 jo)), (2, .ref (bd 1 0)), (1, .ref (ad1 0 0)), (0, .ref b)]) hx hb d_Law_law_320 hl (by decide) rfl (fun ls hl => ?_)
  refine lv_aload_n hx hb d_Law_law_322 rfl (lv_at hl 4 rfl) ?_
  refine lw_Ri (r0 := 0) (R1 := R1) (me_runV (C := "FilterGuardModel") (As := []) (rest := []) ⟨hx, hb, hml, hown, hts⟩ (c_M_thrown l D bd ca NR R2 R1 (0 : Int32) 0 e3 hwr h10 _) rfl (by show fg_nm y_M_thrown 0; decide +kernel) u_1967 u_1968 u_1969 u_192 u_1970 ⟨Nat.le_of_ble_eq_true rfl, Nat.le_of_ble_eq_true rfl⟩ hX hz.2 hK (fk_Pr hP) (fk_Dr hD) hwr hS hA h10 (by decide) rfl rfl rfl hl.1 (Nat.le_of_ble_eq_true rfl) d_Law_law_323 (by exact lw_f2 hfit)) hP hD hK hS hA (fun H locs hw hP hD hS => ?_)
  refine W.widen (k := cells1) (n := slots1) (Nat.le_refl _) (Nat.le_refl _) ?_
  have hwr := hw.1
  refine lv_iload hx hb d_Law_law_326 (lv_at hl 1 rfl) ?_
  refine lv_icmp_eq (tgt := 333) hx hb d_Law_law_328 (by decide) (fun c9 => ?_) (fun c9 => absurd (by decide) c9)
  refine lv_iload hx hb d_Law_law_333 (lv_at hl 1 rfl) ?_
  refine lv_if_ne (tgt := 350) hx hb d_Law_law_335 (by decide) (fun c9 => absurd (by decide) c9) (fun c9 => ?_)
  refine lv_aload_n hx hb d_Law_law_338 rfl (lv_at hl 3 rfl) ?_
  refine lv_iconst (v := 0) hx hb d_Law_law_339 (by decide) ?_
  have hz9 : 0 < mZ M1 16 jo := hout
  refine me_lald hx hb hK (fk_Pl hP) hwf hjo (me_in (i := (0 : Int32)) (k := 0) (by decide) (by decide) hz9) d_Law_law_340 ?_
  refine fg_topl (y := mL M1 16 jo 0) (congrArg _ (by decide)) ?_
  refine lv_iload hx hb d_Law_law_341 (lv_at hl 0 rfl) ?_
  refine lv_i2l (v := rb.toInt64) hx hb d_Law_law_343 rfl ?_
  refine W.lcmp hx hb d_Law_law_344 ?_
  refine fg_topi (y := 0) ((lg_cmp_eq _ _).mpr hob) ?_
  refine lv_if_eq (tgt := 350) hx hb d_Law_law_345 (by decide) (fun c9 => ?_) (fun c9 => absurd (by decide) c9)
  refine lv_goto (tgt := 1029) hx hb d_Law_law_350 (by decide) ?_
  exact kk ad1 N1 _ _ _ _ _ hNN hwf hwr ⟨hok.2.2.1, hok.2.2.2.1⟩ hP hD hS (lv_sub hl [2, 3, 4, 5, 6] rfl) (by have := hok.1; omega) (by have := hok.2.1; omega)
set_option maxHeartbeats 4000000 in
set_option maxRecDepth 100000 in
theorem law_2_1 {p : Program} {l : Launch} {e : Env} {s : Jvm.State} {m : MethodId} {below : List Frame} {meth : Method} {c : Code} {b L i : Nat} {xs : Nat → Int32} {A : Nat → Prop} {D : va_G} {ca : Nat → ClassId} {ad bd : Nat → Nat → Nat} {N NR : Nat → Nat} {M M1 R R1 : me_M} {jo : Nat} {H : Heap} {locs : List Loc} {ls : Array Slot} {cells slots : Nat} {Q : Jvm.State → Prop} {R2 : me_M} {rb : Int32} (hl9 : l.stackTraces = false) (hx : p.tables.exec = Jvm.exec) (hb : c.code = code) (hml : c.maxLocals = 8) (hown : s.vm.findClass "FilterGuardLaw" = some m.cls) (hts : ∀ w ∈ fg_g, w.before #[Value.ref b] s = true) (hX : fg_X s) (hz : fg_Z A s s.heap) (hy : fg_Y s) (hXs : va_X b L xs s s.heap) (hbl : b < s.heap.size) (hbA : ¬ A b) (hA : ∀ q : Nat, s.heap.size ≤ q → A q) (hK : va_K D classes (me_T ca) s) (hL : L ≤ 3072) (hi : i + 6 ≤ L) (hwf : me_wf N M) (hwr : me_wf NR R) (hcl : me_cN N ≤ me_CL ∧ me_sN N ≤ me_SL) (h00 : 0 < N 0) (h10 : 0 < NR 1) (hjo : jo < N 16) (hP : va_P D classes (me_W ad ca M ++ me_W bd ca R) H) (hD : va_D A (me_W ad ca M ++ me_W bd ca R)) (hS : va_S A s.heap H locs) (hl : lv_has ls 8 [(4, .int (nI i)), (3, .ref (ad 16 jo)), (2, .ref (bd 1 0)), (1, .ref (ad 0 0)), (0, .ref b)]) (hfit : cells + (me_CL - me_cN N) + 8 ≤ 601024 ∧ slots + (me_SL - me_sN N) + 48 ≤ 7293034) (e1 : fT1_G_program M 0 (xs (i + 1)) (xs (i + 2)) = some M1) (e2 : f_M_program R 0 (xs (i + 1)) (xs (i + 2)) = some (R2, rb)) (e3 : f_M_thrown R2 0 = some (R1, 1)) (kk : ∀ (ad1 : Nat → Nat → Nat) (N1 : Nat → Nat) (H1 : Heap) (locs1 : List Loc) (ls1 : Array Slot) (cells1 slots1 : Nat), (∀ a, N a ≤ N1 a) → me_wf N1 M1 → me_wf NR R1 → (me_cN N1 ≤ me_CL ∧ me_sN N1 ≤ me_SL) → va_P D classes (me_W ad1 ca M1 ++ me_W bd ca R1) H1 → va_D A (me_W ad1 ca M1 ++ me_W bd ca R1) → va_S A s.heap H1 locs1 → lv_has ls1 8 [(4, .int (nI i)), (3, .ref (ad1 16 jo)), (2, .ref (bd 1 0)), (1, .ref (ad1 0 0)), (0, .ref b)] → cells1 + me_cN N ≤ cells + me_cN N1 + 1 → slots1 + me_sN N ≤ slots + me_sN N1 + 6 → W p l e room_1 s m #[Value.ref b] below meth c H1 locs1 cells1 slots1 Q (F0 m 1029 ls1 [])) : W p l e room_1 s m #[Value.ref b] below meth c H locs cells slots Q (F0 m 285 ls []) := by
  refine lv_aload_n hx hb d_Law_law_285 rfl (lv_at hl 3 rfl) ?_
  refine lv_aload_n hx hb d_Law_law_286 rfl (lv_at hl 4 rfl) ?_
  refine lv_iload hx hb d_Law_law_287 (lv_at hl 0 rfl) ?_
  refine lv_iconst (v := 1) hx hb d_Law_law_289 (by decide) ?_
  refine lv_iadd hx hb d_Law_law_290 ?_
  refine fg_topi (y := nI (i + 1)) (nI_add i 1) ?_
  refine va_sld hx hb hXs hbl hbA hS (nI_in (c := i + 1) (N := L) (by omega) (by omega)) d_Law_law_291 ?_
  refine fg_topi (y := xs (i + 1)) (by rw [nI_clamp (by omega)]) ?_
  refine lv_aload_n hx hb d_Law_law_292 rfl (lv_at hl 4 rfl) ?_
  refine lv_iload hx hb d_Law_law_293 (lv_at hl 0 rfl) ?_
  refine lv_iconst (v := 2) hx hb d_Law_law_295 (by decide) ?_
  refine lv_iadd hx hb d_Law_law_296 ?_
  refine fg_topi (y := nI (i + 2)) (nI_add i 2) ?_
  refine va_sld hx hb hXs hbl hbA hS (nI_in (c := i + 2) (N := L) (by omega) (by omega)) d_Law_law_297 ?_
  refine fg_topi (y := xs (i + 2)) (by rw [nI_clamp (by omega)]) ?_
  refine lv_aload_n hx hb d_Law_law_298 rfl (lv_at hl 1 rfl) ?_
  refine lw_Mi (r0 := 1) (M1 := M1) (al_runSH (As := [.ref (ad 0 0), .int (xs (i + 1)), .int (xs (i + 2)), .ref (ad 16 jo)]) (rest := []) ⟨hx, hb, hml, hown, hts⟩ (cH1_Law_program l hl9 D ad ca N M M1 0 (xs (i + 1)) (xs (i + 2)) jo e1 hwf h00 hjo _) (by show fg_nm y_Law_program 4; decide +kernel) u_933 u_934 u_180 u_935 ⟨Nat.le_of_ble_eq_true rfl, Nat.le_of_ble_eq_true rfl⟩ hX (fk_Pl hP) hK (fk_Dl hD) hz hy hS hA rfl hl.1 (Nat.le_of_ble_eq_true rfl) d_Law_law_299 (by exact lw_f1 hfit)) hP hD hK hS hA (fun H locs hw hP hD hS => ?_)
  obtain ⟨cells0, hc0⟩ : ∃ z, z = cells := ⟨_, rfl⟩
  obtain ⟨slots0, hs0⟩ : ∃ z, z = slots := ⟨_, rfl⟩
  refine W.widen (k := cells + 1) (n := slots + 6) (Nat.le_refl _) (Nat.le_refl _) ?_
  have hwf := hw
  have hfit := lw_ft hfit
  generalize hce : cells + 1 = cells1 at hfit ⊢
  generalize hse : slots + 6 = slots1 at hfit ⊢
  refine lv_istore (lv' := [(5, .int 1), (4, .int (nI i)), (3, .ref (ad 16 jo)), (2, .ref (bd 1 0)), (1, .ref (ad 0 0)), (0, .ref b)]) hx hb d_Law_law_302 hl (by decide) rfl (fun ls hl => ?_)
  refine lv_aload_n hx hb d_Law_law_304 rfl (lv_at hl 3 rfl) ?_
  refine lv_aload_n hx hb d_Law_law_305 rfl (lv_at hl 5 rfl) ?_
  refine lv_iload hx hb d_Law_law_306 (lv_at hl 1 rfl) ?_
  refine lv_iconst (v := 1) hx hb d_Law_law_308 (by decide) ?_
  refine lv_iadd hx hb d_Law_law_309 ?_
  refine fg_topi (y := nI (i + 1)) (nI_add i 1) ?_
  refine va_sld hx hb hXs hbl hbA hS (nI_in (c := i + 1) (N := L) (by omega) (by omega)) d_Law_law_310 ?_
  refine fg_topi (y := xs (i + 1)) (by rw [nI_clamp (by omega)]) ?_
  refine lv_aload_n hx hb d_Law_law_311 rfl (lv_at hl 5 rfl) ?_
  refine lv_iload hx hb d_Law_law_312 (lv_at hl 1 rfl) ?_
  refine lv_iconst (v := 2) hx hb d_Law_law_314 (by decide) ?_
  refine lv_iadd hx hb d_Law_law_315 ?_
  refine fg_topi (y := nI (i + 2)) (nI_add i 2) ?_
  refine va_sld hx hb hXs hbl hbA hS (nI_in (c := i + 2) (N := L) (by omega) (by omega)) d_Law_law_316 ?_
  refine fg_topi (y := xs (i + 2)) (by rw [nI_clamp (by omega)]) ?_
  refine lw_Ri (r0 := rb) (R1 := R2) (me_runV (C := "FilterGuardModel") (As := [.int (xs (i + 1)), .int (xs (i + 2))]) (rest := []) ⟨hx, hb, hml, hown, hts⟩ (c_M_program l D bd ca NR R R2 rb 0 (xs (i + 1)) (xs (i + 2)) e2 hwr h10 _) rfl (by show fg_nm y_M_program 2; decide +kernel) u_1971 u_1972 u_1973 u_192 u_1974 ⟨Nat.le_of_ble_eq_true rfl, Nat.le_of_ble_eq_true rfl⟩ hX hz.2 hK (fk_Pr hP) (fk_Dr hD) hwr hS hA h10 (by decide) rfl rfl rfl hl.1 (Nat.le_of_ble_eq_true rfl) d_Law_law_317 (by exact lw_f2 hfit)) hP hD hK hS hA (fun H locs hw hP hD hS => ?_)
  refine W.widen (k := cells1) (n := slots1) (Nat.le_refl _) (Nat.le_refl _) ?_
  have hwr := hw.1
  refine lv_istore (lv' := [(6, .int rb), (5, .int 1), (4, .int (nI i)), (3, .ref (ad 16 jo)), (2, .ref (bd 1 0)), (1, .ref (ad 0 0)), (0, .ref b)]) hx hb d_Law_law_320 hl (by decide) rfl (fun ls hl => ?_)
  refine lv_aload_n hx hb d_Law_law_322 rfl (lv_at hl 4 rfl) ?_
  refine lw_Ri (r0 := 1) (R1 := R1) (me_runV (C := "FilterGuardModel") (As := []) (rest := []) ⟨hx, hb, hml, hown, hts⟩ (c_M_thrown l D bd ca NR R2 R1 (1 : Int32) 0 e3 hwr h10 _) rfl (by show fg_nm y_M_thrown 0; decide +kernel) u_1967 u_1968 u_1969 u_192 u_1970 ⟨Nat.le_of_ble_eq_true rfl, Nat.le_of_ble_eq_true rfl⟩ hX hz.2 hK (fk_Pr hP) (fk_Dr hD) hwr hS hA h10 (by decide) rfl rfl rfl hl.1 (Nat.le_of_ble_eq_true rfl) d_Law_law_323 (by exact lw_f2 hfit)) hP hD hK hS hA (fun H locs hw hP hD hS => ?_)
  refine W.widen (k := cells1) (n := slots1) (Nat.le_refl _) (Nat.le_refl _) ?_
  have hwr := hw.1
  refine lv_iload hx hb d_Law_law_326 (lv_at hl 1 rfl) ?_
  refine lv_icmp_eq (tgt := 333) hx hb d_Law_law_328 (by decide) (fun c9 => ?_) (fun c9 => absurd (by decide) c9)
  refine lv_iload hx hb d_Law_law_333 (lv_at hl 1 rfl) ?_
  refine lv_if_ne (tgt := 350) hx hb d_Law_law_335 (by decide) (fun c9 => ?_) (fun c9 => absurd c9 (by decide))
  refine lv_goto (tgt := 1029) hx hb d_Law_law_350 (by decide) ?_
  exact kk ad N _ _ _ _ _ (fun _ => Nat.le_refl _) hwf hwr hcl hP hD hS (lv_sub hl [2, 3, 4, 5, 6] rfl) (by omega) (by omega)
