/-! THE TIE, 1: numbers, kinds, cells. What a state of the small machine says of a state of the Java machine. -/
theorem ofI_w (z : Int) : Int32.ofInt (wI z) = Int32.ofInt z := by
  apply Int32.toInt_inj.mp
  rw [Int32.toInt_ofInt, Int32.toInt_ofInt]
  exact Int.bmod_bmod
theorem ofL_w (z : Int) : Int64.ofInt (wL z) = Int64.ofInt z := by
  apply Int64.toInt_inj.mp
  rw [Int64.toInt_ofInt, Int64.toInt_ofInt]
  exact Int.bmod_bmod
theorem ofI_inj {x y : Int} (hx : inI x) (hy : inI y) : Int32.ofInt x = Int32.ofInt y ↔ x = y := by
  constructor
  · intro h
    rw [← toI hx, ← toI hy, h]
  · intro h
    rw [h]
theorem ofI_lt {x y : Int} (hx : inI x) (hy : inI y) : Int32.ofInt x < Int32.ofInt y ↔ x < y := by
  rw [Int32.lt_iff_toInt_lt, toI hx, toI hy]
theorem ofI_le {x y : Int} (hx : inI x) (hy : inI y) : Int32.ofInt x ≤ Int32.ofInt y ↔ x ≤ y := by
  rw [Int32.le_iff_toInt_le, toI hx, toI hy]
theorem ofL_inj {x y : Int} (hx : inL x) (hy : inL y) : Int64.ofInt x = Int64.ofInt y ↔ x = y := by
  constructor
  · intro h
    rw [← toL hx, ← toL hy, h]
  · intro h
    rw [h]
theorem ofI_z : Int32.ofInt 0 = 0 := rfl
theorem inI_0 : inI 0 := by unfold inI; omega
theorem inL_0 : inL 0 := by unfold inL; omega
theorem ofI_nat {z : Int} (h : inI z) (h0 : 0 ≤ z) : (Int32.ofInt z).toNatClampNeg = z.toNat := Int32.toNatClampNeg_ofInt_of_le h.1 h.2
theorem ofI_in {i n : Int} (h : inI i) (h0 : 0 ≤ i) (hn : i < n) : vp_in (Int32.ofInt i) n.toNat := by
  rw [vp_in_iff, toI h]
  omega
theorem inI_i2l {z : Int} (h : inI z) : inL z := by unfold inI at h; unfold inL; omega
theorem ofI_i2l {z : Int} (h : inI z) : (Int32.ofInt z).toInt64 = Int64.ofInt z := by
  apply Int64.toInt_inj.mp
  rw [Int32.toInt_toInt64, toI h, toL (inI_i2l h)]
theorem ofL_l2i (z : Int) : (Int64.ofInt z).toInt32 = Int32.ofInt (wI z) := by
  rw [ofI_w, Int64.toInt32_ofInt]
theorem inI_tmod {x y : Int} (hx : inI x) : inI (x.tmod y) := by
  unfold inI at *
  have h : (x.tmod y).natAbs ≤ x.natAbs := by
    rw [Int.natAbs_tmod]
    exact Nat.mod_le _ _
  rcases Int.le_total 0 x with q | q
  · have := Int.tmod_nonneg y q
    omega
  · have : x.tmod y ≤ 0 := by
      have := Int.tmod_nonneg (a := -x) y (by omega)
      rw [Int.neg_tmod] at this
      omega
    omega
theorem inL_tmod {x y : Int} (hx : inL x) : inL (x.tmod y) := by
  unfold inL at *
  have h : (x.tmod y).natAbs ≤ x.natAbs := by
    rw [Int.natAbs_tmod]
    exact Nat.mod_le _ _
  rcases Int.le_total 0 x with q | q
  · have := Int.tmod_nonneg y q
    omega
  · have : x.tmod y ≤ 0 := by
      have := Int.tmod_nonneg (a := -x) y (by omega)
      rw [Int.neg_tmod] at this
      omega
    omega
theorem ofI_div {x y : Int} (hx : inI x) (hy : inI y) : Int32.ofInt x / Int32.ofInt y = Int32.ofInt (wI (x.tdiv y)) := by
  apply Int32.toInt_inj.mp
  rw [Int32.toInt_div, toI hx, toI hy, toI (inI_lo _)]
  rfl
theorem ofL_div {x y : Int} (hx : inL x) (hy : inL y) : Int64.ofInt x / Int64.ofInt y = Int64.ofInt (wL (x.tdiv y)) := by
  apply Int64.toInt_inj.mp
  rw [Int64.toInt_div, toL hx, toL hy, toL (inL_lo _)]
  rfl
theorem ofI_rem {x y : Int} (hx : inI x) (hy : inI y) : Int32.ofInt x - Int32.ofInt x / Int32.ofInt y * Int32.ofInt y = Int32.ofInt (x.tmod y) := by
  rw [ofI_div hx hy, ofI_w, ← Int32.ofInt_mul, ← Int32.ofInt_sub]
  congr 1
  have := Int.tmod_add_mul_tdiv x y
  rw [Int.mul_comm]
  omega
theorem ofL_rem {x y : Int} (hx : inL x) (hy : inL y) : Int64.ofInt x - Int64.ofInt x / Int64.ofInt y * Int64.ofInt y = Int64.ofInt (x.tmod y) := by
  rw [ofL_div hx hy, ofL_w, ← Int64.ofInt_mul, ← Int64.ofInt_sub]
  congr 1
  have := Int.tmod_add_mul_tdiv x y
  rw [Int.mul_comm]
  omega
theorem ofI_cmp {x y : Int} (hx : inL x) (hy : inL y) : lg_cmp (Int64.ofInt x) (Int64.ofInt y) = Int32.ofInt (lcmp64 x y) := by
  unfold lg_cmp lcmp64
  have h1 : (Int64.ofInt x > Int64.ofInt y) ↔ y < x := by
    rw [gt_iff_lt, Int64.lt_iff_toInt_lt, toL hx, toL hy]
  by_cases h : y < x
  · rw [if_pos (h1.mpr h), if_pos h]; rfl
  · rw [if_neg (fun q => h (h1.mp q)), if_neg h]
    by_cases h2 : x = y
    · rw [if_pos ((ofL_inj hx hy).mpr h2), if_pos h2]; rfl
    · rw [if_neg (fun q => h2 ((ofL_inj hx hy).mp q)), if_neg h2]; rfl
theorem inI_cmp (x y : Int) : inI (lcmp64 x y) := by
  unfold lcmp64 inI
  split
  · omega
  · split <;> omega
