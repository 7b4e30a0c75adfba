/-! THE PURE PART, least: bits are counted, the lowest bit that differs -/
def bc1 (x : Int) : Int := wI (x - iand (iushr x 1) 1431655765)
def bc2 (x : Int) : Int := wI (iand x 858993459 + iand (iushr x 2) 858993459)
def bc3 (x : Int) : Int := iand (wI (x + iushr x 4)) 252645135
def bc4 (x : Int) : Int := wI (x + iushr x 8)
def bc5 (x : Int) : Int := iand (wI (x + iushr x 16)) 63
def bcF (x : Int) : Int := bc5 (bc4 (bc3 (bc2 (bc1 x))))
theorem J_bc (x : Int) (h : mH) : Cl kJ_bitCount [vI x] h = some (some (vI (bcF x)), h) := E_J_bitCount ..
theorem bn_sh {x k : Nat} (hx : x < 2147483648) (k0 : 0 < k) (hk : k < 32) : iushr (x : Int) (k : Int) = ((x / 2 ^ k : Nat) : Int) := by
  rw [Z_ushr hk k0, Int.natCast_ediv]
  rw [show (x : Int) % 4294967296 = x by omega]
def bn1 (x : Nat) : Nat := x - (x / 2 ^ 1 &&& 1431655765)
def bn2 (x : Nat) : Nat := (x &&& 858993459) + (x / 2 ^ 2 &&& 858993459)
def bn3 (x : Nat) : Nat := (x + x / 2 ^ 4) &&& 252645135
def bn4 (x : Nat) : Nat := x + x / 2 ^ 8
def bn5 (x : Nat) : Nat := (x + x / 2 ^ 16) &&& 63
theorem bn1_e {x : Nat} (hx : x < 16384) : bc1 (x : Int) = (bn1 x : Int) ∧ bn1 x < 16384 := by
  have l : x / 2 ^ 1 &&& 1431655765 ≤ x / 2 ^ 1 := Nat.and_le_left
  unfold bc1 bn1
  rw [show iushr (x : Int) 1 = ((x / 2 ^ 1 : Nat) : Int) from bn_sh (k := 1) (by omega) (by decide) (by decide), show iand ((x / 2 ^ 1 : Nat) : Int) 1431655765 = ((x / 2 ^ 1 &&& 1431655765 : Nat) : Int) from Z_andN _ 1431655765 (by omega) (by decide), Z_wI (by omega)]
  omega
theorem bn2_e {x : Nat} (hx : x < 16384) : bc2 (x : Int) = (bn2 x : Int) ∧ bn2 x < 32768 := by
  have l : x / 2 ^ 2 &&& 858993459 ≤ x / 2 ^ 2 := Nat.and_le_left
  have l2 : x &&& 858993459 ≤ x := Nat.and_le_left
  unfold bc2 bn2
  rw [show iushr (x : Int) 2 = ((x / 2 ^ 2 : Nat) : Int) from bn_sh (k := 2) (by omega) (by decide) (by decide), show iand ((x / 2 ^ 2 : Nat) : Int) 858993459 = ((x / 2 ^ 2 &&& 858993459 : Nat) : Int) from Z_andN _ 858993459 (by omega) (by decide), show iand (x : Int) 858993459 = ((x &&& 858993459 : Nat) : Int) from Z_andN _ 858993459 (by omega) (by decide), Z_wI (by omega)]
  omega
theorem bn3_e {x : Nat} (hx : x < 32768) : bc3 (x : Int) = (bn3 x : Int) ∧ bn3 x < 65536 := by
  have l : (x + x / 2 ^ 4) &&& 252645135 ≤ x + x / 2 ^ 4 := Nat.and_le_left
  unfold bc3 bn3
  rw [show iushr (x : Int) 4 = ((x / 2 ^ 4 : Nat) : Int) from bn_sh (k := 4) (by omega) (by decide) (by decide), Z_wI (by omega), ← Int.natCast_add, show iand ((x + x / 2 ^ 4 : Nat) : Int) 252645135 = (((x + x / 2 ^ 4) &&& 252645135 : Nat) : Int) from Z_andN _ 252645135 (by omega) (by decide)]
  omega
theorem bn4_e {x : Nat} (hx : x < 65536) : bc4 (x : Int) = (bn4 x : Int) ∧ bn4 x < 131072 := by
  unfold bc4 bn4
  rw [show iushr (x : Int) 8 = ((x / 2 ^ 8 : Nat) : Int) from bn_sh (k := 8) (by omega) (by decide) (by decide), Z_wI (by omega)]
  omega
theorem bn5_e {x : Nat} (hx : x < 131072) : bc5 (x : Int) = (bn5 x : Int) := by
  have l : (x + x / 2 ^ 16) &&& 63 ≤ x + x / 2 ^ 16 := Nat.and_le_left
  unfold bc5 bn5
  rw [show iushr (x : Int) 16 = ((x / 2 ^ 16 : Nat) : Int) from bn_sh (k := 16) (by omega) (by decide) (by decide), Z_wI (by omega), ← Int.natCast_add]
  exact Z_andN _ 63 (by omega) (by decide)
def bnF (x : Nat) : Nat := bn5 (bn4 (bn3 (bn2 (bn1 x))))
theorem bnF_e {x : Nat} (hx : x < 16384) : bcF (x : Int) = (bnF x : Int) := by
  unfold bcF bnF
  have a := bn1_e hx
  have b := bn2_e a.2
  have c := bn3_e b.2
  have d := bn4_e c.2
  rw [a.1, b.1, c.1, d.1, bn5_e d.2]
def pcn : Nat → Nat → Nat
  | 0, _ => 0
  | f + 1, x => x % 2 + pcn f (x / 2)
/-- the lowest bit of a number -/
def lwb : Nat → Nat → Nat
  | 0, _ => 0
  | f + 1, x => if x % 2 = 1 then 0 else 1 + lwb f (x / 2)
theorem low_e {d : Nat} (d0 : 0 < d) (d1 : d < 2147483648) : iand (d : Int) (wI (-(d : Int))) = ((d &&& (4294967296 - d) : Nat) : Int) := by
  rw [Z_wI (by omega)]
  show (BitVec.ofInt 32 (d : Int) &&& BitVec.ofInt 32 (-(d : Int))).toInt = _
  have e2 : (BitVec.ofInt 32 (-(d : Int))).toNat = 4294967296 - d := by
    rw [BitVec.toNat_ofInt]
    omega
  have l : d &&& (4294967296 - d) ≤ d := Nat.and_le_left
  have e : (BitVec.ofInt 32 (d : Int) &&& BitVec.ofInt 32 (-(d : Int))).toNat = d &&& (4294967296 - d) := by
    rw [BitVec.toNat_and, e2, BitVec.ofInt_natCast, BitVec.toNat_ofNat, Nat.mod_eq_of_lt (by omega)]
  rw [BitVec.toInt_eq_toNat_of_lt (by rw [e]; omega), e]
