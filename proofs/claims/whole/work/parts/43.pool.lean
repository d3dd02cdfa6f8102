/-! The cells of a state, as a piece of a world: cell i stands at ad i, its number at ad (i + 75). -/
abbrev fc_T : Type := Int32 × Int32 × Int32 × Int32 × Int32 × Int32 × Int64 × Int64 × Int64 × Int64 × Int64 × Int64
def fc_k (c : fc_T) : Int32 := c.1
def fc_p (c : fc_T) : Int32 := c.2.1
def fc_m (c : fc_T) : Int32 := c.2.2.1
def fc_i (c : fc_T) : Int32 := c.2.2.2.1
def fc_r (c : fc_T) : Int32 := c.2.2.2.2.1
def fc_w (c : fc_T) : Int32 := c.2.2.2.2.2.1
def fc_1 (c : fc_T) : Int64 := c.2.2.2.2.2.2.1
def fc_2 (c : fc_T) : Int64 := c.2.2.2.2.2.2.2.1
def fc_3 (c : fc_T) : Int64 := c.2.2.2.2.2.2.2.2.1
def fc_4 (c : fc_T) : Int64 := c.2.2.2.2.2.2.2.2.2.1
def fc_5 (c : fc_T) : Int64 := c.2.2.2.2.2.2.2.2.2.2.1
def fc_6 (c : fc_T) : Int64 := c.2.2.2.2.2.2.2.2.2.2.2
abbrev fs_c (a b : Nat) (c : fc_T) : va_W := [(a, .inr (10, [.int c.1, .int c.2.1, .int c.2.2.1, .int c.2.2.2.1, .int c.2.2.2.2.1, .int c.2.2.2.2.2.1, .ref b])), (b, .inr (11, [.long c.2.2.2.2.2.2.1, .long c.2.2.2.2.2.2.2.1, .long c.2.2.2.2.2.2.2.2.1, .long c.2.2.2.2.2.2.2.2.2.1, .long c.2.2.2.2.2.2.2.2.2.2.1, .long c.2.2.2.2.2.2.2.2.2.2.2]))]
def fs_W (ad : Nat → Nat) (C : Nat → fc_T) (is : List Nat) : va_W := is.flatMap (fun i => fs_c (ad i) (ad (i + 75)) (C i))
def fs_a (ad : Nat → Nat) : Nat → Option Nat := fun i => some (ad i)
def fs_u (C : Nat → fc_T) (i : Nat) (c : fc_T) : Nat → fc_T := fun j => if j = i then c else C j
def fs_r : List Nat := List.range 75
theorem fs_nd : fs_r.Nodup := List.nodup_range
theorem fs_in {i : Int32} (h : vp_in i 75) : i.toNatClampNeg ∈ fs_r := List.mem_range.mpr (Nat.not_le.mp fun q => h (Or.inr q))
theorem fs_m2 {is : List Nat} {i j : Nat} (h : j ∈ is) (hne : j ≠ i) : j ∈ is.erase i := (List.mem_erase_of_ne hne).mpr h
theorem fs_open {ad : Nat → Nat} {C : Nat → fc_T} {is : List Nat} {i a b : Nat} {c : fc_T} (hi : i ∈ is) (ha : a = ad i) (hb : b = ad (i + 75)) (hc : C i = c) : (fs_W ad C is ++ []).Perm (fs_c a b c ++ (fs_W ad C (is.erase i) ++ [])) := by
  subst ha hb hc
  rw [List.append_nil, List.append_nil]
  exact (List.perm_cons_erase hi).flatMap_right (fun i => fs_c (ad i) (ad (i + 75)) (C i))
theorem fs_same {ad : Nat → Nat} {C C1 : Nat → fc_T} : ∀ {is : List Nat}, (∀ j ∈ is, C j = C1 j) → fs_W ad C is = fs_W ad C1 is
  | [], _ => rfl
  | j :: is, h => by
    show fs_c (ad j) (ad (j + 75)) (C j) ++ fs_W ad C is = fs_c (ad j) (ad (j + 75)) (C1 j) ++ fs_W ad C1 is
    rw [h j List.mem_cons_self, fs_same (fun k hk => h k (List.mem_cons_of_mem _ hk))]
theorem fs_uself {C : Nat → fc_T} {i : Nat} {c : fc_T} : fs_u C i c i = c := by
  unfold fs_u
  rw [if_pos rfl]
theorem fs_une {C : Nat → fc_T} {i j : Nat} {c : fc_T} (h : j ≠ i) : fs_u C i c j = C j := by
  unfold fs_u
  rw [if_neg h]
theorem fs_close {ad : Nat → Nat} {C : Nat → fc_T} {is : List Nat} {i a b : Nat} {c : fc_T} (hn : is.Nodup) (hi : i ∈ is) (ha : a = ad i) (hb : b = ad (i + 75)) : (fs_c a b c ++ (fs_W ad C (is.erase i) ++ [])).Perm (fs_W ad (fs_u C i c) is ++ []) := by
  have h1 := fs_open (C := fs_u C i c) hi ha hb fs_uself
  rw [fs_same (is := is.erase i) (C := fs_u C i c) (C1 := C) (fun j hj => fs_une (fun z => by subst z; exact List.Nodup.not_mem_erase hn hj))] at h1
  exact h1.symm
