/-! Worlds in pieces: a world is cells that are told one by one, and pieces behind them that are lists of cells. -/
theorem fk_P {D : va_G} {cl : List vw_C} {ws : va_W} {H : Heap} : va_P D cl ws H ↔ ∀ q ∈ ws, va_at D cl q H := by
  constructor
  · intro h q hq
    obtain ⟨k, hk⟩ := List.mem_iff_getElem?.mp hq
    exact h k q hk
  · intro h k q hk
    exact h q (List.mem_of_getElem? hk)
abbrev fk_N (ws : va_W) : Prop := ws.Pairwise (fun x y => x.1 ≠ y.1)
theorem fk_D {A : Nat → Prop} {ws : va_W} : va_D A ws ↔ fk_N ws ∧ ∀ q ∈ ws, A q.1 := by
  constructor
  · intro h
    refine ⟨?_, ?_⟩
    · rw [fk_N, List.pairwise_iff_getElem]
      intro i j hi hj hij he
      have := h.1 i j _ _ (List.getElem?_eq_getElem hi) (List.getElem?_eq_getElem hj) he
      omega
    · intro q hq
      obtain ⟨k, hk⟩ := List.mem_iff_getElem?.mp hq
      exact h.2 k q hk
  · intro h
    refine ⟨?_, fun k q hk => h.2 q (List.mem_of_getElem? hk)⟩
    intro i j p q hp hq he
    have h1 := List.pairwise_iff_getElem.mp h.1
    obtain ⟨hi, rfl⟩ := List.getElem?_eq_some_iff.mp hp
    obtain ⟨hj, rfl⟩ := List.getElem?_eq_some_iff.mp hq
    rcases Nat.lt_trichotomy i j with c | c | c
    · exact absurd he (h1 i j hi hj c)
    · exact c
    · exact absurd he.symm (h1 j i hj hi c)
theorem fk_Pp {D : va_G} {cl : List vw_C} {ws ws1 : va_W} {H : Heap} (h : ws.Perm ws1) (hP : va_P D cl ws H) : va_P D cl ws1 H := fk_P.mpr (fun q hq => fk_P.mp hP q (h.mem_iff.mpr hq))
theorem fk_Dp {A : Nat → Prop} {ws ws1 : va_W} (h : ws.Perm ws1) (hD : va_D A ws) : va_D A ws1 := fk_D.mpr ⟨(h.pairwise_iff (fun z => z.symm)).mp (fk_D.mp hD).1, fun q hq => (fk_D.mp hD).2 q (h.mem_iff.mpr hq)⟩
theorem fk_Pl {D : va_G} {cl : List vw_C} {a b : va_W} {H : Heap} (hP : va_P D cl (a ++ b) H) : va_P D cl a H := fk_P.mpr (fun q hq => fk_P.mp hP q (List.mem_append_left _ hq))
theorem fk_Dl {A : Nat → Prop} {a b : va_W} (hD : va_D A (a ++ b)) : va_D A a := fk_D.mpr ⟨(List.pairwise_append.mp (fk_D.mp hD).1).1, fun q hq => (fk_D.mp hD).2 q (List.mem_append_left _ hq)⟩
abbrev fk_A (a b : va_W) : va_W := a ++ b
abbrev fk_M (a b : va_W) : Prop := a.Perm b
/-- the pieces of a world, sorted anew: those at is, then those at js -/
theorem fk_pm {α : Type} (cs c1 c2 : List (List α)) (is js : List Nat) (h1 : is.map (fun i => cs[i]?) = c1.map some) (h2 : js.map (fun i => cs[i]?) = c2.map some) (h3 : (List.range cs.length).isPerm (is ++ js) = true) : cs.flatten.Perm (c1.flatten ++ c2.flatten) := by
  have hr := List.isPerm_iff.mp h3
  have e1 : is.map (fun i => (cs[i]?).getD []) = c1 := by
    have := congrArg (List.map (fun o : Option (List α) => o.getD [])) h1
    simpa [List.map_map, Function.comp_def] using this
  have e2 : js.map (fun i => (cs[i]?).getD []) = c2 := by
    have := congrArg (List.map (fun o : Option (List α) => o.getD [])) h2
    simpa [List.map_map, Function.comp_def] using this
  have e3 : (List.range cs.length).map (fun i => (cs[i]?).getD []) = cs := by
    apply List.ext_getElem?
    intro i
    rcases Nat.lt_or_ge i cs.length with h | h
    · simp [List.getElem?_map, List.getElem?_range, h]
    · simp [List.getElem?_map, List.getElem?_eq_none, h]
  have h5 := (hr.map (fun i => (cs[i]?).getD [])).flatten
  rw [e3, List.map_append, e1, e2, List.flatten_append] at h5
  exact h5
theorem fk_mp {α : Type} (cs c1 c2 : List (List α)) (is js : List Nat) (h1 : is.map (fun i => cs[i]?) = c1.map some) (h2 : js.map (fun i => cs[i]?) = c2.map some) (h3 : (List.range cs.length).isPerm (is ++ js) = true) : (c1.flatten ++ c2.flatten).Perm cs.flatten := (fk_pm cs c1 c2 is js h1 h2 h3).symm
theorem fk_nd : ∀ l : List Nat, l.Nodup → va_nd l = true
  | [], _ => rfl
  | a :: l, h => by
    rw [List.nodup_cons] at h
    simp only [va_nd, Bool.and_eq_true, decide_eq_true_eq]
    exact ⟨h.1, fk_nd l h.2⟩
theorem fk_ixC {wc wr : va_W} : (List.range wc.length).map (fun i => (wc ++ wr)[i]?) = wc.map some := by
  apply List.ext_getElem?
  intro i
  rcases Nat.lt_or_ge i wc.length with h | h
  · simp [List.getElem?_map, List.getElem?_range, h, List.getElem?_append_left]
  · simp [List.getElem?_map, List.getElem?_eq_none, h]
theorem fk_ixR {wc wr : va_W} : (List.range' wc.length wr.length).map (fun i => (wc ++ wr)[i]?) = wr.map some := by
  apply List.ext_getElem?
  intro i
  rcases Nat.lt_or_ge i wr.length with h | h
  · simp [List.getElem?_map, List.getElem?_range', h]
  · simp [List.getElem?_map, List.getElem?_eq_none, h]
section FKC
variable {p : Program} {l : Launch} {e : Env} {R : Room} {s : State} {m : MethodId} {args : Array Value} {below : List Frame} {meth : Method} {c : Code} {H : Heap} {locs : List Loc} {cells slots : Nat} {Q : State → Prop}
variable {cc : ByteArray} {pc nL maxL index : Nat} {ls : Array Slot} {D : va_G} {A A2 : Nat → Prop} {y : MethodName} {bytes : ByteArray} {ret : Option FieldType} {rm : Room} {own : String} {b : Nat} {As rest st : List Value} {tc tys : fg_T} {wc ws wr : va_W} {Qc : Array Value → State → Outcome → State → Prop} {free : Addr → Prop}
variable {mc ms : Nat} {S : Type} {w1 wn : S → va_W} {t1 : S → fg_T} {a : Array Value}
theorem fk_dis {n k : Nat} : ∀ i ∈ List.range' n k, i ∉ List.range n := by
  intro i hi h
  rw [List.mem_range'_1] at hi
  rw [List.mem_range] at h
  omega
theorem fk_thenv {post : S → Prop} (hr : va_Run p l e R s m args below meth c H locs cells slots mc ms (F0 m pc ls st) rest (va_Qv post (fg_B D (va_A wc H.size) w1 t1) (va_A wc H.size) a) (va_A wc H.size))
    (hp : ws.Perm (wc ++ wr)) (hq : ∀ u : S, (wr ++ w1 u).Perm (wn u)) (hP : va_P D classes ws H) (hD : va_D A ws) (hK : va_K D classes tys s) (hS : va_S A s.heap H locs) (hA : ∀ q : Nat, s.heap.size ≤ q → A q)
    (kk : ∀ (u : S) (H1 : Heap) (locs1 : List Loc), post u → va_P D classes (wn u) H1 → va_D A (wn u) → va_K D classes (tys ++ t1 u) s → va_S A s.heap H1 locs1 → W p l e R s m args below meth c H1 locs1 (cells + mc) (slots + ms) Q (F0 m (pc + 3) ls rest)) : W p l e R s m args below meth c H locs cells slots Q (F0 m pc ls st) :=
  fg_thenv (wr := wr) hr (fk_Pp hp hP) (fk_Dp hp hD) hK hS hA (List.range wc.length) (List.range' wc.length wr.length) fk_ixC fk_ixR (fk_nd _ List.nodup_range') fk_dis (fun u H1 locs1 hw hP1 hD1 hK1 hS1 => kk u H1 locs1 hw (fk_Pp (hq u) hP1) (fk_Dp (hq u) hD1) hK1 hS1)
theorem fk_theni {post : Int32 → S → Prop} (hr : va_Run p l e R s m args below meth c H locs cells slots mc ms (F0 m pc ls st) rest (va_Qi post (fg_B D (va_A wc H.size) w1 t1) (va_A wc H.size) a) (va_A wc H.size))
    (hp : ws.Perm (wc ++ wr)) (hq : ∀ u : S, (wr ++ w1 u).Perm (wn u)) (hP : va_P D classes ws H) (hD : va_D A ws) (hK : va_K D classes tys s) (hS : va_S A s.heap H locs) (hA : ∀ q : Nat, s.heap.size ≤ q → A q)
    (kk : ∀ (r : Int32) (u : S) (H1 : Heap) (locs1 : List Loc), post r u → va_P D classes (wn u) H1 → va_D A (wn u) → va_K D classes (tys ++ t1 u) s → va_S A s.heap H1 locs1 → W p l e R s m args below meth c H1 locs1 (cells + mc) (slots + ms) Q (F0 m (pc + 3) ls (.int r :: rest))) : W p l e R s m args below meth c H locs cells slots Q (F0 m pc ls st) :=
  fg_theni (wr := wr) hr (fk_Pp hp hP) (fk_Dp hp hD) hK hS hA (List.range wc.length) (List.range' wc.length wr.length) fk_ixC fk_ixR (fk_nd _ List.nodup_range') fk_dis (fun r u H1 locs1 hw hP1 hD1 hK1 hS1 => kk r u H1 locs1 hw (fk_Pp (hq u) hP1) (fk_Dp (hq u) hD1) hK1 hS1)
theorem fk_thenl {post : Int64 → S → Prop} (hr : va_Run p l e R s m args below meth c H locs cells slots mc ms (F0 m pc ls st) rest (va_Ql post (fg_B D (va_A wc H.size) w1 t1) (va_A wc H.size) a) (va_A wc H.size))
    (hp : ws.Perm (wc ++ wr)) (hq : ∀ u : S, (wr ++ w1 u).Perm (wn u)) (hP : va_P D classes ws H) (hD : va_D A ws) (hK : va_K D classes tys s) (hS : va_S A s.heap H locs) (hA : ∀ q : Nat, s.heap.size ≤ q → A q)
    (kk : ∀ (r : Int64) (u : S) (H1 : Heap) (locs1 : List Loc), post r u → va_P D classes (wn u) H1 → va_D A (wn u) → va_K D classes (tys ++ t1 u) s → va_S A s.heap H1 locs1 → W p l e R s m args below meth c H1 locs1 (cells + mc) (slots + ms) Q (F0 m (pc + 3) ls (.long r :: rest))) : W p l e R s m args below meth c H locs cells slots Q (F0 m pc ls st) :=
  fg_thenl (wr := wr) hr (fk_Pp hp hP) (fk_Dp hp hD) hK hS hA (List.range wc.length) (List.range' wc.length wr.length) fk_ixC fk_ixR (fk_nd _ List.nodup_range') fk_dis (fun r u H1 locs1 hw hP1 hD1 hK1 hS1 => kk r u H1 locs1 hw (fk_Pp (hq u) hP1) (fk_Dp (hq u) hD1) hK1 hS1)
end FKC
section FKR
variable {p : Program} {l : Launch} {e : Env} {R : Room} {s : State} {m : MethodId} {args : Array Value} {below : List Frame} {meth : Method} {c : Code} {H : Heap} {locs : List Loc} {cells slots : Nat} {Q : State → Prop} {pc : Nat} {ls : Array Slot} {rest : List Value}
theorem fk_topr {x y : Nat} (h : y = x) (k : W p l e R s m args below meth c H locs cells slots Q (F0 m pc ls (.ref y :: rest))) : W p l e R s m args below meth c H locs cells slots Q (F0 m pc ls (.ref x :: rest)) := h ▸ k
theorem fk_topo {o : Option Nat} {y : Nat} (h : o = some y) (k : W p l e R s m args below meth c H locs cells slots Q (F0 m pc ls (.ref y :: rest))) : W p l e R s m args below meth c H locs cells slots Q (F0 m pc ls (va_rf o :: rest)) := by
  subst h
  exact k
end FKR
section FKQ
variable {p : Program} {l : Launch} {e : Env} {R : Room} {s : State} {m : MethodId} {args : Array Value} {below : List Frame} {meth : Method} {c : Code} {H : Heap} {locs : List Loc} {cells slots mc ms : Nat} {Q : State → Prop}
variable {cc : ByteArray} {pc : Nat} {ls : Array Slot} {D : va_G} {A : Nat → Prop} {S : Type} {w1 wn : S → va_W} {t1 : S → fg_T} {rest st : List Value} {tys : fg_T} {wc ws wr : va_W} {a : Array Value}
/-- a reference goes back -/
theorem fk_retr {post : Option Nat → S → Prop} {v : Nat} {n : String} (u : S) (hx : p.tables.exec = Jvm.exec) (hb : c.code = cc) (hr : meth.sig.returnType = some (.object n)) (hlocks : meth.locks = false) (hp : post (some v) u) (hP : va_P D classes (w1 u) H) (hK : va_K D classes (t1 u) s) (hD : va_D A (w1 u)) (hS : va_S A s.heap H locs) (hc : cells ≤ mc) (hs : slots ≤ ms) (hdg : decode cc pc = .ok (.areturn, 1)) : W p l e R s m args below meth c H locs cells slots (MQ below (va_Qq post (fg_B D A w1 t1) A) args s mc ms A) (F0 m pc ls [.ref v]) :=
  W.widen hc hs (W.aret hx hb hr (Or.inl ⟨n, rfl⟩) (Or.inr ⟨v, rfl⟩) (fun t ht hW => ⟨⟨some v, u, rfl, hp, by rw [ht]; exact hP, va_K.moved hW.alike hK, hD⟩, hS.F ht⟩) hS.2.2 hdg hlocks)
theorem fk_thenr {post : Option Nat → S → Prop} (hr : va_Run p l e R s m args below meth c H locs cells slots mc ms (F0 m pc ls st) rest (va_Qq post (fg_B D (va_A wc H.size) w1 t1) (va_A wc H.size) a) (va_A wc H.size))
    (hp : ws.Perm (wc ++ wr)) (hq : ∀ u : S, (wr ++ w1 u).Perm (wn u)) (hP : va_P D classes ws H) (hD : va_D A ws) (hK : va_K D classes tys s) (hS : va_S A s.heap H locs) (hA : ∀ q : Nat, s.heap.size ≤ q → A q)
    (kk : ∀ (r : Option Nat) (u : S) (H1 : Heap) (locs1 : List Loc), post r u → va_P D classes (wn u) H1 → va_D A (wn u) → va_K D classes (tys ++ t1 u) s → va_S A s.heap H1 locs1 → W p l e R s m args below meth c H1 locs1 (cells + mc) (slots + ms) Q (F0 m (pc + 3) ls (va_rf r :: rest))) : W p l e R s m args below meth c H locs cells slots Q (F0 m pc ls st) := by
  have hP9 := fk_Pp hp hP
  have hD9 := fk_Dp hp hD
  have hFc := va_free (wc := wc) hD9 hS hA (List.range wc.length) fk_ixC
  refine va_callq hr hS (fun q _ h => hFc q h) hFc (fun r u t H1 locs1 ht hvm hw hB hz1 hk1 hS1 => ?_)
  obtain ⟨hP1, hK1, hD1⟩ := hB
  rw [ht] at hP1
  obtain ⟨hP2, hD2⟩ := va_join (wr := wr) hP9 hD9 (List.range wc.length) (List.range' wc.length wr.length) fk_ixC fk_ixR (fk_nd _ List.nodup_range') fk_dis hk1 hFc hP1 hD1
  exact kk r u H1 locs1 hw (fk_Pp (hq u) hP2) (fk_Dp (hq u) hD2) (hK.app (va_K.moved hvm.symm hK1)) hS1
end FKQ
