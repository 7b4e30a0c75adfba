/-! the range of ints and longs -/
def inI (z : Int) : Prop := -2147483648 ≤ z ∧ z < 2147483648
def inL (z : Int) : Prop := -9223372036854775808 ≤ z ∧ z < 9223372036854775808
theorem inI_lo (z : Int) : inI (wI z) := by
  have a := Int.le_bmod (x := z) (m := 4294967296) (by omega)
  have b := Int.bmod_lt (x := z) (m := 4294967296) (by omega)
  unfold inI wI
  omega
theorem inL_lo (z : Int) : inL (wL z) := by
  have a := Int.le_bmod (x := z) (m := 18446744073709551616) (by omega)
  have b := Int.bmod_lt (x := z) (m := 18446744073709551616) (by omega)
  unfold inL wL
  omega
theorem wI_id {z : Int} (h : inI z) : wI z = z := by
  unfold inI at h
  exact Int.bmod_eq_of_le (m := 4294967296) (by omega) (by omega)
theorem wL_id {z : Int} (h : inL z) : wL z = z := by
  unfold inL at h
  exact Int.bmod_eq_of_le (m := 18446744073709551616) (by omega) (by omega)
theorem toI {z : Int} (h : inI z) : (Int32.ofInt z).toInt = z := Int32.toInt_ofInt_of_le h.1 h.2
theorem toL {z : Int} (h : inL z) : (Int64.ofInt z).toInt = z := Int64.toInt_ofInt_of_le h.1 h.2
theorem inI_of (x : Int32) : inI x.toInt := ⟨x.le_toInt, x.toInt_lt⟩
theorem inL_of (x : Int64) : inL x.toInt := ⟨x.le_toInt, x.toInt_lt⟩
