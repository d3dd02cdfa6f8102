/-! Slots of a program taken apart. -/
theorem fg_nz01 {v : Int32} (h : v = 1 ∨ v = 0) : narrow FieldType.boolean (Value.int v) = Value.int v := by
  rcases h with h | h <;> rw [h] <;> rfl
theorem fg_fi01 {v : Int32} (h : v = 1 ∨ v = 0) : fits FieldType.boolean (Value.int v) = true := by
  rcases h with h | h <;> rw [h] <;> rfl
def fd_sh (w : Int64) (k : Int32) : Int64 := (w.toUInt64 >>> (k.toInt64.toUInt64 &&& Int64.toUInt64 63)).toInt64
def fd_word (f : Nat → Int64) (n : Nat) (k : Int32) : Int64 := if k < 0 then 0 else if nI n ≤ k then 0 else f k.toNatClampNeg
def fd_op (w : Int64) : Int32 := w.toInt32 &&& 255
def fd_to (w : Int64) : Int32 := (fd_sh w 8).toInt32 &&& 15
def fd_from (w : Int64) : Int32 := (fd_sh w 12).toInt32 &&& 15
def fd_off (w : Int64) : Int32 := (fd_sh w 16).toInt32.toInt16.toInt32
def fd_field (w : Int64) : Int32 := (fd_sh w 32).toInt32
def fd_by (o : Int32) : Int32 := fz_s ((o >>> (3 &&& 31)) &&& 3).toNatClampNeg
def fd_pl (o : Int32) : Int32 := if o &&& 224 = 96 then 1 else 0
/-- loads, stores, WIDE: the family of an op, before arithmetic and jumps are looked at -/
def fd_mem (o : Int32) : Int32 :=
  if o &&& 7 = 0 then (if o = 24 then 1 else 0) else if o &&& 7 = 1 then (if fd_pl o = 0 then 0 else 2) else if o &&& 7 = 2 then (if fd_pl o = 0 then 0 else 4)
  else if o &&& 7 = 3 then (if fd_pl o = 0 then (if o = 219 then 5 else if o = 195 then 5 else 0) else 3) else 0
def fd_hi (o : Int32) : Int32 := o >>> (4 &&& 31)
def fd_isf (o : Int32) : Int32 := if o &&& 8 = 0 then 0 else 1
/-- arithmetic: operation, narrow, reads from, family, reads to -/
def fd_ao (o : Int32) : Int32 := if o = 212 then 14 else if o = 220 then 13 else fz_o (fd_hi o).toNatClampNeg
def fd_an (o b v : Int32) : Int32 := if o = 212 then v else if o = 220 then v else b
def fd_af (o v : Int32) : Int32 := if o = 212 then v else if o = 220 then v else fd_isf o
def fd_ag (o : Int32) : Int32 := if fd_ao o < 0 then 0 else if fd_ao o = 11 then (if fd_isf o = 0 then 1 else 0) else 1
def fd_afam (o v : Int32) : Int32 := if fd_ag o = 0 then v else 6
def fd_art (o v : Int32) : Int32 := if fd_ag o = 0 then v else if fd_ao o = 12 then 0 else 1
/-- jumps -/
def fd_jo (o : Int32) : Int32 := fz_r (fd_hi o).toNatClampNeg
def fd_jn (o b v : Int32) : Int32 := if fd_jo o < 0 then v else b
def fd_jf (o v : Int32) : Int32 := if fd_jo o < 0 then v else fd_isf o
def fd_jfam (o v : Int32) : Int32 := if fd_jo o < 0 then (if o = 5 then 7 else if o = 133 then 9 else if o = 149 then 10 else v) else 8
def fd_jrt (o v : Int32) : Int32 := if fd_jo o < 0 then v else 1
def fd_rt0 (g : Int32) : Int32 := if g = 3 then 1 else if g = 4 then 1 else if g = 5 then 1 else 0
def fd_rf0 (g : Int32) : Int32 := if g = 2 then 1 else if g = 3 then 1 else if g = 5 then 1 else 0
/-- all that an op says -/
def fd_grp (o : Int32) : Int32 := if o &&& 7 = 4 then 1 else if o &&& 7 = 7 then 1 else if o &&& 7 = 5 then 2 else if o &&& 7 = 6 then 2 else 0
def fd_b4 (o : Int32) : Int32 := if o &&& 7 = 4 then 1 else 0
def fd_b6 (o : Int32) : Int32 := if o &&& 7 = 6 then 1 else 0
def fd_fam (o : Int32) : Int32 := if fd_grp o = 1 then fd_afam o (fd_mem o) else if fd_grp o = 2 then fd_jfam o (fd_mem o) else fd_mem o
def fd_opn (o : Int32) : Int32 := if fd_grp o = 1 then fd_ao o else if fd_grp o = 2 then fd_jo o else -1
def fd_nar (o : Int32) : Int32 := if fd_grp o = 1 then fd_an o (fd_b4 o) 0 else if fd_grp o = 2 then fd_jn o (fd_b6 o) 0 else 0
def fd_rt (o : Int32) : Int32 := if fd_grp o = 1 then fd_art o (fd_rt0 (fd_mem o)) else if fd_grp o = 2 then fd_jrt o (fd_rt0 (fd_mem o)) else fd_rt0 (fd_mem o)
def fd_rf (o : Int32) : Int32 := if fd_grp o = 1 then fd_af o (fd_rf0 (fd_mem o)) else if fd_grp o = 2 then fd_jf o (fd_rf0 (fd_mem o)) else fd_rf0 (fd_mem o)
theorem fd_in {k : Int32} {n N : Nat} (h1 : ¬ k < 0) (h2 : ¬ nI n ≤ k) (hn : n ≤ N) (hN : N < 2 ^ 31) : vp_in k N := by
  obtain ⟨j, hj, rfl⟩ := nI_of h1
  have h3 : j < n := Nat.not_le.mp (fun z => h2 ((nI_leI (by omega) hj).mpr z))
  exact nI_in (by omega) hN
/-- a number under a mask of low bits -/
theorem fd_and (x : Int32) {n : Nat} (hn : n < 2 ^ 31) : ∃ j : Nat, j ≤ n ∧ x &&& nI n = nI j := by
  refine ⟨x.toBitVec.toNat &&& n, Nat.and_le_right, ?_⟩
  apply Int32.toBitVec_inj.mp
  apply BitVec.eq_of_toNat_eq
  have hj : x.toBitVec.toNat &&& n ≤ n := Nat.and_le_right
  have e1 : (nI n).toBitVec.toNat = n := by
    show (Int32.ofNat n).toBitVec.toNat = n
    rw [Int32.toBitVec_ofNat', BitVec.toNat_ofNat]
    exact Nat.mod_eq_of_lt (by omega)
  have e2 : (nI (x.toBitVec.toNat &&& n)).toBitVec.toNat = x.toBitVec.toNat &&& n := by
    show (Int32.ofNat (x.toBitVec.toNat &&& n)).toBitVec.toNat = _
    rw [Int32.toBitVec_ofNat', BitVec.toNat_ofNat]
    exact Nat.mod_eq_of_lt (by omega)
  rw [Int32.toBitVec_and, BitVec.toNat_and, e1, e2]
theorem fd_in4 (x : Int32) : vp_in (x &&& 3) 4 := by
  obtain ⟨j, h1, h2⟩ := fd_and x (n := 3) (by decide)
  have : x &&& 3 = nI j := h2
  rw [this]
  exact nI_in (by omega) (by decide)
theorem fd_op_rng (w : Int64) : ∃ j : Nat, j < 256 ∧ fd_op w = nI j := by
  obtain ⟨j, h1, h2⟩ := fd_and w.toInt32 (n := 255) (by decide)
  exact ⟨j, by omega, h2⟩
theorem fd_hi_all : ∀ j : Nat, j < 256 → fd_hi (nI j) = nI (j / 16) := by decide +kernel
theorem fd_hi_in {o : Int32} {j : Nat} (hj : j < 256) (ho : o = nI j) : vp_in (fd_hi o) 16 := by
  rw [ho, fd_hi_all j hj]
  exact nI_in (by omega) (by decide)
